theorem dX9_count_0 : decode cX9_count 0 = .ok (.iconst 0, 1) := by decide +kernel
theorem dX9_count_1 : decode cX9_count 1 = .ok (.istore_n 2, 1) := by decide +kernel
theorem dX9_count_2 : decode cX9_count 2 = .ok (.iload_n 2, 1) := by decide +kernel
theorem dX9_count_3 : decode cX9_count 3 = .ok (.bipush 21, 2) := by decide +kernel
theorem dX9_count_5 : decode cX9_count 5 = .ok (.if_icmp .ge 16, 3) := by decide +kernel
theorem dX9_count_8 : decode cX9_count 8 = .ok (.aload_n 0, 1) := by decide +kernel
theorem dX9_count_9 : decode cX9_count 9 = .ok (.getfield 99, 3) := by decide +kernel
theorem dX9_count_12 : decode cX9_count 12 = .ok (.iload_n 2, 1) := by decide +kernel
theorem dX9_count_13 : decode cX9_count 13 = .ok (.iconst 0, 1) := by decide +kernel
theorem dX9_count_14 : decode cX9_count 14 = .ok (.bastore, 1) := by decide +kernel
theorem dX9_count_15 : decode cX9_count 15 = .ok (.iinc 2 1, 3) := by decide +kernel
theorem dX9_count_18 : decode cX9_count 18 = .ok (.goto (-16), 3) := by decide +kernel
theorem dX9_count_21 : decode cX9_count 21 = .ok (.iconst 0, 1) := by decide +kernel
theorem dX9_count_22 : decode cX9_count 22 = .ok (.istore_n 2, 1) := by decide +kernel
theorem dX9_count_23 : decode cX9_count 23 = .ok (.iconst 1, 1) := by decide +kernel
theorem dX9_count_24 : decode cX9_count 24 = .ok (.istore_n 3, 1) := by decide +kernel
theorem dX9_count_25 : decode cX9_count 25 = .ok (.iload_n 3, 1) := by decide +kernel
theorem dX9_count_26 : decode cX9_count 26 = .ok (.ifCond .eq 242, 3) := by decide +kernel
theorem dX9_count_29 : decode cX9_count 29 = .ok (.iconst 0, 1) := by decide +kernel
theorem dX9_count_30 : decode cX9_count 30 = .ok (.istore_n 3, 1) := by decide +kernel
theorem dX9_count_31 : decode cX9_count 31 = .ok (.iconst 0, 1) := by decide +kernel
theorem dX9_count_32 : decode cX9_count 32 = .ok (.istore 4, 2) := by decide +kernel
theorem dX9_count_34 : decode cX9_count 34 = .ok (.iload 4, 2) := by decide +kernel
theorem dX9_count_36 : decode cX9_count 36 = .ok (.aload_n 0, 1) := by decide +kernel
theorem dX9_count_37 : decode cX9_count 37 = .ok (.getfield 7, 3) := by decide +kernel
theorem dX9_count_40 : decode cX9_count 40 = .ok (.iload_n 1, 1) := by decide +kernel
theorem dX9_count_41 : decode cX9_count 41 = .ok (.iaload, 1) := by decide +kernel
theorem dX9_count_42 : decode cX9_count 42 = .ok (.if_icmp .ge 223, 3) := by decide +kernel
theorem dX9_count_45 : decode cX9_count 45 = .ok (.aload_n 0, 1) := by decide +kernel
theorem dX9_count_46 : decode cX9_count 46 = .ok (.getfield 99, 3) := by decide +kernel
theorem dX9_count_49 : decode cX9_count 49 = .ok (.iload 4, 2) := by decide +kernel
theorem dX9_count_51 : decode cX9_count 51 = .ok (.baload, 1) := by decide +kernel
theorem dX9_count_52 : decode cX9_count 52 = .ok (.ifCond .eq 6, 3) := by decide +kernel
theorem dX9_count_55 : decode cX9_count 55 = .ok (.goto 204, 3) := by decide +kernel
theorem dX9_count_58 : decode cX9_count 58 = .ok (.iconst 1, 1) := by decide +kernel
theorem dX9_count_59 : decode cX9_count 59 = .ok (.istore 5, 2) := by decide +kernel
theorem dX9_count_61 : decode cX9_count 61 = .ok (.lconst 0, 1) := by decide +kernel
theorem dX9_count_62 : decode cX9_count 62 = .ok (.lstore 6, 2) := by decide +kernel
theorem dX9_count_64 : decode cX9_count 64 = .ok (.bipush 40, 2) := by decide +kernel
theorem dX9_count_66 : decode cX9_count 66 = .ok (.iload_n 1, 1) := by decide +kernel
theorem dX9_count_67 : decode cX9_count 67 = .ok (.imul, 1) := by decide +kernel
theorem dX9_count_68 : decode cX9_count 68 = .ok (.istore 8, 2) := by decide +kernel
theorem dX9_count_70 : decode cX9_count 70 = .ok (.iload 8, 2) := by decide +kernel
theorem dX9_count_72 : decode cX9_count 72 = .ok (.bipush 40, 2) := by decide +kernel
theorem dX9_count_74 : decode cX9_count 74 = .ok (.iload_n 1, 1) := by decide +kernel
theorem dX9_count_75 : decode cX9_count 75 = .ok (.imul, 1) := by decide +kernel
theorem dX9_count_76 : decode cX9_count 76 = .ok (.aload_n 0, 1) := by decide +kernel
theorem dX9_count_77 : decode cX9_count 77 = .ok (.getfield 13, 3) := by decide +kernel
theorem dX9_count_80 : decode cX9_count 80 = .ok (.iload_n 1, 1) := by decide +kernel
theorem dX9_count_81 : decode cX9_count 81 = .ok (.iaload, 1) := by decide +kernel
theorem dX9_count_82 : decode cX9_count 82 = .ok (.iadd, 1) := by decide +kernel
theorem dX9_count_83 : decode cX9_count 83 = .ok (.if_icmp .ge 111, 3) := by decide +kernel
theorem dX9_count_86 : decode cX9_count 86 = .ok (.aload_n 0, 1) := by decide +kernel
theorem dX9_count_87 : decode cX9_count 87 = .ok (.getfield 26, 3) := by decide +kernel
theorem dX9_count_90 : decode cX9_count 90 = .ok (.iload 8, 2) := by decide +kernel
theorem dX9_count_92 : decode cX9_count 92 = .ok (.iaload, 1) := by decide +kernel
theorem dX9_count_93 : decode cX9_count 93 = .ok (.iload 4, 2) := by decide +kernel
theorem dX9_count_95 : decode cX9_count 95 = .ok (.if_icmp .eq 6, 3) := by decide +kernel
theorem dX9_count_98 : decode cX9_count 98 = .ok (.goto 90, 3) := by decide +kernel
theorem dX9_count_101 : decode cX9_count 101 = .ok (.iload 5, 2) := by decide +kernel
theorem dX9_count_103 : decode cX9_count 103 = .ok (.ifCond .eq 32, 3) := by decide +kernel
theorem dX9_count_106 : decode cX9_count 106 = .ok (.aload_n 0, 1) := by decide +kernel
theorem dX9_count_107 : decode cX9_count 107 = .ok (.getfield 35, 3) := by decide +kernel
theorem dX9_count_110 : decode cX9_count 110 = .ok (.iload 8, 2) := by decide +kernel
theorem dX9_count_112 : decode cX9_count 112 = .ok (.baload, 1) := by decide +kernel
theorem dX9_count_113 : decode cX9_count 113 = .ok (.ifCond .ne 18, 3) := by decide +kernel
theorem dX9_count_116 : decode cX9_count 116 = .ok (.aload_n 0, 1) := by decide +kernel
theorem dX9_count_117 : decode cX9_count 117 = .ok (.getfield 99, 3) := by decide +kernel
theorem dX9_count_120 : decode cX9_count 120 = .ok (.aload_n 0, 1) := by decide +kernel
theorem dX9_count_121 : decode cX9_count 121 = .ok (.getfield 29, 3) := by decide +kernel
theorem dX9_count_124 : decode cX9_count 124 = .ok (.iload 8, 2) := by decide +kernel
theorem dX9_count_126 : decode cX9_count 126 = .ok (.iaload, 1) := by decide +kernel
theorem dX9_count_127 : decode cX9_count 127 = .ok (.baload, 1) := by decide +kernel
theorem dX9_count_128 : decode cX9_count 128 = .ok (.ifCond .eq 7, 3) := by decide +kernel
theorem dX9_count_131 : decode cX9_count 131 = .ok (.iconst 1, 1) := by decide +kernel
theorem dX9_count_132 : decode cX9_count 132 = .ok (.goto 4, 3) := by decide +kernel
theorem dX9_count_135 : decode cX9_count 135 = .ok (.iconst 0, 1) := by decide +kernel
theorem dX9_count_136 : decode cX9_count 136 = .ok (.istore 5, 2) := by decide +kernel
theorem dX9_count_138 : decode cX9_count 138 = .ok (.iload 5, 2) := by decide +kernel
theorem dX9_count_140 : decode cX9_count 140 = .ok (.ifCond .eq 48, 3) := by decide +kernel
theorem dX9_count_143 : decode cX9_count 143 = .ok (.aload_n 0, 1) := by decide +kernel
theorem dX9_count_144 : decode cX9_count 144 = .ok (.getfield 60, 3) := by decide +kernel
theorem dX9_count_147 : decode cX9_count 147 = .ok (.iload 8, 2) := by decide +kernel
theorem dX9_count_149 : decode cX9_count 149 = .ok (.lload 6, 2) := by decide +kernel
theorem dX9_count_151 : decode cX9_count 151 = .ok (.lastore, 1) := by decide +kernel
theorem dX9_count_152 : decode cX9_count 152 = .ok (.lload 6, 2) := by decide +kernel
theorem dX9_count_154 : decode cX9_count 154 = .ok (.aload_n 0, 1) := by decide +kernel
theorem dX9_count_155 : decode cX9_count 155 = .ok (.getfield 35, 3) := by decide +kernel
theorem dX9_count_158 : decode cX9_count 158 = .ok (.iload 8, 2) := by decide +kernel
theorem dX9_count_160 : decode cX9_count 160 = .ok (.baload, 1) := by decide +kernel
theorem dX9_count_161 : decode cX9_count 161 = .ok (.ifCond .eq 7, 3) := by decide +kernel
theorem dX9_count_164 : decode cX9_count 164 = .ok (.lconst 1, 1) := by decide +kernel
theorem dX9_count_165 : decode cX9_count 165 = .ok (.goto 20, 3) := by decide +kernel
theorem dX9_count_168 : decode cX9_count 168 = .ok (.aload_n 0, 1) := by decide +kernel
theorem dX9_count_169 : decode cX9_count 169 = .ok (.getfield 54, 3) := by decide +kernel
theorem dX9_count_172 : decode cX9_count 172 = .ok (.bipush 20, 2) := by decide +kernel
theorem dX9_count_174 : decode cX9_count 174 = .ok (.iload_n 1, 1) := by decide +kernel
theorem dX9_count_175 : decode cX9_count 175 = .ok (.imul, 1) := by decide +kernel
theorem dX9_count_176 : decode cX9_count 176 = .ok (.aload_n 0, 1) := by decide +kernel
theorem dX9_count_177 : decode cX9_count 177 = .ok (.getfield 29, 3) := by decide +kernel
theorem dX9_count_180 : decode cX9_count 180 = .ok (.iload 8, 2) := by decide +kernel
theorem dX9_count_182 : decode cX9_count 182 = .ok (.iaload, 1) := by decide +kernel
theorem dX9_count_183 : decode cX9_count 183 = .ok (.iadd, 1) := by decide +kernel
theorem dX9_count_184 : decode cX9_count 184 = .ok (.laload, 1) := by decide +kernel
theorem dX9_count_185 : decode cX9_count 185 = .ok (.ladd, 1) := by decide +kernel
theorem dX9_count_186 : decode cX9_count 186 = .ok (.lstore 6, 2) := by decide +kernel
theorem dX9_count_188 : decode cX9_count 188 = .ok (.iinc 8 1, 3) := by decide +kernel
theorem dX9_count_191 : decode cX9_count 191 = .ok (.goto (-121), 3) := by decide +kernel
theorem dX9_count_194 : decode cX9_count 194 = .ok (.iload 5, 2) := by decide +kernel
theorem dX9_count_196 : decode cX9_count 196 = .ok (.ifCond .ne 6, 3) := by decide +kernel
theorem dX9_count_199 : decode cX9_count 199 = .ok (.goto 60, 3) := by decide +kernel
theorem dX9_count_202 : decode cX9_count 202 = .ok (.aload_n 0, 1) := by decide +kernel
theorem dX9_count_203 : decode cX9_count 203 = .ok (.getfield 20, 3) := by decide +kernel
theorem dX9_count_206 : decode cX9_count 206 = .ok (.bipush 20, 2) := by decide +kernel
theorem dX9_count_208 : decode cX9_count 208 = .ok (.iload_n 1, 1) := by decide +kernel
theorem dX9_count_209 : decode cX9_count 209 = .ok (.imul, 1) := by decide +kernel
theorem dX9_count_210 : decode cX9_count 210 = .ok (.iload 4, 2) := by decide +kernel
theorem dX9_count_212 : decode cX9_count 212 = .ok (.iadd, 1) := by decide +kernel
theorem dX9_count_213 : decode cX9_count 213 = .ok (.iaload, 1) := by decide +kernel
theorem dX9_count_214 : decode cX9_count 214 = .ok (.istore 8, 2) := by decide +kernel
theorem dX9_count_216 : decode cX9_count 216 = .ok (.aload_n 0, 1) := by decide +kernel
theorem dX9_count_217 : decode cX9_count 217 = .ok (.getfield 54, 3) := by decide +kernel
theorem dX9_count_220 : decode cX9_count 220 = .ok (.bipush 20, 2) := by decide +kernel
theorem dX9_count_222 : decode cX9_count 222 = .ok (.iload_n 1, 1) := by decide +kernel
theorem dX9_count_223 : decode cX9_count 223 = .ok (.imul, 1) := by decide +kernel
theorem dX9_count_224 : decode cX9_count 224 = .ok (.iload 4, 2) := by decide +kernel
theorem dX9_count_226 : decode cX9_count 226 = .ok (.iadd, 1) := by decide +kernel
theorem dX9_count_227 : decode cX9_count 227 = .ok (.iload 8, 2) := by decide +kernel
theorem dX9_count_229 : decode cX9_count 229 = .ok (.iconst 3, 1) := by decide +kernel
theorem dX9_count_230 : decode cX9_count 230 = .ok (.if_icmp .eq 9, 3) := by decide +kernel
theorem dX9_count_233 : decode cX9_count 233 = .ok (.iload 8, 2) := by decide +kernel
theorem dX9_count_235 : decode cX9_count 235 = .ok (.iconst 4, 1) := by decide +kernel
theorem dX9_count_236 : decode cX9_count 236 = .ok (.if_icmp .ne 7, 3) := by decide +kernel
theorem dX9_count_239 : decode cX9_count 239 = .ok (.lconst 1, 1) := by decide +kernel
theorem dX9_count_240 : decode cX9_count 240 = .ok (.goto 5, 3) := by decide +kernel
theorem dX9_count_243 : decode cX9_count 243 = .ok (.lload 6, 2) := by decide +kernel
theorem dX9_count_245 : decode cX9_count 245 = .ok (.lastore, 1) := by decide +kernel
theorem dX9_count_246 : decode cX9_count 246 = .ok (.aload_n 0, 1) := by decide +kernel
theorem dX9_count_247 : decode cX9_count 247 = .ok (.getfield 99, 3) := by decide +kernel
theorem dX9_count_250 : decode cX9_count 250 = .ok (.iload 4, 2) := by decide +kernel
theorem dX9_count_252 : decode cX9_count 252 = .ok (.iconst 1, 1) := by decide +kernel
theorem dX9_count_253 : decode cX9_count 253 = .ok (.bastore, 1) := by decide +kernel
theorem dX9_count_254 : decode cX9_count 254 = .ok (.iinc 2 1, 3) := by decide +kernel
theorem dX9_count_257 : decode cX9_count 257 = .ok (.iconst 1, 1) := by decide +kernel
theorem dX9_count_258 : decode cX9_count 258 = .ok (.istore_n 3, 1) := by decide +kernel
theorem dX9_count_259 : decode cX9_count 259 = .ok (.iinc 4 1, 3) := by decide +kernel
theorem dX9_count_262 : decode cX9_count 262 = .ok (.goto (-228), 3) := by decide +kernel
theorem dX9_count_265 : decode cX9_count 265 = .ok (.goto (-240), 3) := by decide +kernel
theorem dX9_count_268 : decode cX9_count 268 = .ok (.iload_n 2, 1) := by decide +kernel
theorem dX9_count_269 : decode cX9_count 269 = .ok (.aload_n 0, 1) := by decide +kernel
theorem dX9_count_270 : decode cX9_count 270 = .ok (.getfield 7, 3) := by decide +kernel
theorem dX9_count_273 : decode cX9_count 273 = .ok (.iload_n 1, 1) := by decide +kernel
theorem dX9_count_274 : decode cX9_count 274 = .ok (.iaload, 1) := by decide +kernel
theorem dX9_count_275 : decode cX9_count 275 = .ok (.if_icmp .ne 7, 3) := by decide +kernel
theorem dX9_count_278 : decode cX9_count 278 = .ok (.iconst 1, 1) := by decide +kernel
theorem dX9_count_279 : decode cX9_count 279 = .ok (.goto 4, 3) := by decide +kernel
theorem dX9_count_282 : decode cX9_count 282 = .ok (.iconst 0, 1) := by decide +kernel
theorem dX9_count_283 : decode cX9_count 283 = .ok (.ireturn, 1) := by decide +kernel
def L_X9_count_2 (b1 : Int32) (k : Hp → Option (Int32 × Hp)) : Nat → Int32 → Hp → Option (Int32 × Hp)
  | 0, _, _ => none
  | n + 1, x2, H => if 21 ≤ x2 then k H else gd x2 21 (hl (sI H 0 35 (Int32.toNatClampNeg x2) (vp_nar .boolean 0)) (fun (H2 : Hp) => vl (x2 + (1 : Int32)) (fun (v3 : Int32) => L_X9_count_2 b1 k n v3 H2)))
set_option maxRecDepth 100000 in
set_option maxHeartbeats 4000000 in
theorem sL_X9_count_2 {p : Program} {l : Launch} {e : Env} {s : State} {m : MethodId} {args : Array Value} {below : List Frame} {meth : Method} {c : Code} {A : Nat → Prop} {D : va_G} {K4 : kQ} {ad : Nat → Nat → Nat} {nr : Nat} {b1 : Int32} {k : Hp → Option (Int32 × Hp)} {res : Int32 × Hp} (hC : Cx p s m args c A s.heap D K4 9 RX9 cX9_count) (hret : meth.sig.returnType = (some .boolean) ∧ meth.locks = false) (hk : ∀ (H : Hp), k H = some res → V p l e ({ frames := 0, cells := 0, slots := 0, locals := 0 }) s m args below meth c A s.heap (QI below args s A D K4 ad nr res) D K4 ad nr 9 21 [(0, .ref (ad 0 0)), (1, .int b1)] [] H) : ∀ (n : Nat) (x2 : Int32) (H : Hp), L_X9_count_2 b1 k n x2 H = some res → V p l e ({ frames := 0, cells := 0, slots := 0, locals := 0 }) s m args below meth c A s.heap (QI below args s A D K4 ad nr res) D K4 ad nr 9 2 [(0, .ref (ad 0 0)), (1, .int b1), (2, .int x2)] [] H := by
  intro n
  induction n with
  | zero => intro x2 H h; exact nomatch (show (none : Option (Int32 × Hp)) = some res from h)
  | succ n ih =>
    intro x2 H h
    rw [L_X9_count_2] at h
    refine V_iload_n hC 2 dX9_count_2 rfl ?_
    refine V_bipush (v := 21) hC dX9_count_3 (by decide) ?_
    refine V_icmp_ge (tgt := 21) hC dX9_count_5 (by decide) (fun c1 => ?_) (fun c1 => ?_)
    · have h := it_pos c1 h
      refine V_lv (lv' := [(0, .ref (ad 0 0)), (1, .int b1)]) [0, 1] rfl ?_
      exact hk H h
    · have h := it_neg c1 h
      refine V_aload_n hC 0 dX9_count_8 rfl ?_
      refine V_getR (g := 0) (k := 0) (g' := 0) (k' := 35) hC 9 35 fl_X9_99 rfl rfl rfl rfl dX9_count_9 ?_
      refine V_iload_n hC 2 dX9_count_12 rfl ?_
      refine V_iconst (v := 0) hC dX9_count_13 (by decide) ?_
      obtain ⟨hi, h⟩ := gd_some h
      refine V_zast (g := 0) (k := 35) hC rfl rfl hi dX9_count_14 ?_
      refine V_hl h (fun H2 h => ?_)
      refine V_vi h (fun v3 hvv3 h => ?_)
      refine V_iinc (v := v3) (lv' := [(2, .int v3), (0, .ref (ad 0 0)), (1, .int b1)]) hC 2 dX9_count_15 rfl hvv3.symm (Nat.le_of_ble_eq_true rfl) rfl ?_
      refine V_goto (tgt := 2) hC dX9_count_18 (by decide) ?_
      refine V_lv (lv' := [(0, .ref (ad 0 0)), (1, .int b1), (2, .int v3)]) [1, 2, 0] rfl ?_
      exact ih v3 H2 h
def L_X9_count_70 (b1 : Int32) (b2 : Int32) (b3 : Int32) (b4 : Int32) (k : Int32 → Int64 → Hp → Option (Int32 × Hp)) : Nat → Int32 → Int64 → Int32 → Hp → Option (Int32 × Hp)
  | 0, _, _, _, _ => none
  | n + 1, x5, x6, x8, H => gd b1 8 (if ((40 * b1) + (gI H 0 2 (Int32.toNatClampNeg b1))) ≤ x8 then k x5 x6 H else gd x8 320 (if (gI H 0 6 (Int32.toNatClampNeg x8)) = b4 then jn (fun (y12 : Int32) (H13 : Hp) => if y12 = 0 then vl (x8 + (1 : Int32)) (fun (v15 : Int32) => L_X9_count_70 b1 b2 b3 b4 k n y12 x6 v15 H13) else gd x8 320 (hl (sJ H13 0 17 (Int32.toNatClampNeg x8) x6) (fun (H16 : Hp) => gd x8 320 (if (gI H16 0 9 (Int32.toNatClampNeg x8)) = 0 then gd x8 320 (gd ((20 * b1) + (gI H16 0 7 (Int32.toNatClampNeg x8))) 160 (vl ((x6 + (gJ H16 0 15 (Int32.toNatClampNeg ((20 * b1) + (gI H16 0 7 (Int32.toNatClampNeg x8))))))) (fun (v18 : Int64) => vl (x8 + (1 : Int32)) (fun (v19 : Int32) => L_X9_count_70 b1 b2 b3 b4 k n y12 v18 v19 H16)))) else vl ((x6 + 1)) (fun (v20 : Int64) => vl (x8 + (1 : Int32)) (fun (v21 : Int32) => L_X9_count_70 b1 b2 b3 b4 k n y12 v20 v21 H16)))))) (fun j11 => if x5 = 0 then j11 0 H else gd x8 320 (if (gI H 0 9 (Int32.toNatClampNeg x8)) = 0 then gd x8 320 (gd (gI H 0 7 (Int32.toNatClampNeg x8)) 21 (if (gI H 0 35 (Int32.toNatClampNeg (gI H 0 7 (Int32.toNatClampNeg x8)))) = 0 then j11 0 H else j11 1 H)) else j11 1 H)) else vl (x8 + (1 : Int32)) (fun (v25 : Int32) => L_X9_count_70 b1 b2 b3 b4 k n x5 x6 v25 H)))
set_option maxRecDepth 100000 in
set_option maxHeartbeats 4000000 in
theorem sL_X9_count_70 {p : Program} {l : Launch} {e : Env} {s : State} {m : MethodId} {args : Array Value} {below : List Frame} {meth : Method} {c : Code} {A : Nat → Prop} {D : va_G} {K4 : kQ} {ad : Nat → Nat → Nat} {nr : Nat} {b1 : Int32} {b2 : Int32} {b3 : Int32} {b4 : Int32} {k : Int32 → Int64 → Hp → Option (Int32 × Hp)} {res : Int32 × Hp} (hC : Cx p s m args c A s.heap D K4 9 RX9 cX9_count) (hret : meth.sig.returnType = (some .boolean) ∧ meth.locks = false) (hk : ∀ (z5 : Int32) (z6 : Int64) (H : Hp), k z5 z6 H = some res → V p l e ({ frames := 0, cells := 0, slots := 0, locals := 0 }) s m args below meth c A s.heap (QI below args s A D K4 ad nr res) D K4 ad nr 9 194 [(0, .ref (ad 0 0)), (1, .int b1), (2, .int b2), (3, .int b3), (4, .int b4), (5, .int z5), (6, .long z6)] [] H) : ∀ (n : Nat) (x5 : Int32) (x6 : Int64) (x8 : Int32) (H : Hp), L_X9_count_70 b1 b2 b3 b4 k n x5 x6 x8 H = some res → V p l e ({ frames := 0, cells := 0, slots := 0, locals := 0 }) s m args below meth c A s.heap (QI below args s A D K4 ad nr res) D K4 ad nr 9 70 [(0, .ref (ad 0 0)), (1, .int b1), (2, .int b2), (3, .int b3), (4, .int b4), (5, .int x5), (6, .long x6), (8, .int x8)] [] H := by
  intro n
  induction n with
  | zero => intro x5 x6 x8 H h; exact nomatch (show (none : Option (Int32 × Hp)) = some res from h)
  | succ n ih =>
    intro x5 x6 x8 H h
    rw [L_X9_count_70] at h
    refine V_iload hC 7 dX9_count_70 rfl ?_
    refine V_bipush (v := 40) hC dX9_count_72 (by decide) ?_
    refine V_iload_n hC 1 dX9_count_74 rfl ?_
    refine V_imul hC dX9_count_75 ?_
    refine V_aload_n hC 0 dX9_count_76 rfl ?_
    refine V_getR (g := 0) (k := 0) (g' := 0) (k' := 2) hC 9 2 fl_X9_13 rfl rfl rfl rfl dX9_count_77 ?_
    refine V_iload_n hC 1 dX9_count_80 rfl ?_
    obtain ⟨hi, h⟩ := gd_some h
    refine V_iald (g := 0) (k := 2) hC rfl rfl hi dX9_count_81 ?_
    refine V_iadd hC dX9_count_82 ?_
    refine V_icmp_ge (tgt := 194) hC dX9_count_83 (by decide) (fun c9 => ?_) (fun c9 => ?_)
    · have h := it_pos c9 h
      refine V_lv (lv' := [(0, .ref (ad 0 0)), (1, .int b1), (2, .int b2), (3, .int b3), (4, .int b4), (5, .int x5), (6, .long x6)]) [0, 1, 2, 3, 4, 5, 6] rfl ?_
      exact hk x5 x6 H h
    · have h := it_neg c9 h
      refine V_aload_n hC 0 dX9_count_86 rfl ?_
      refine V_getR (g := 0) (k := 0) (g' := 0) (k' := 6) hC 9 6 fl_X9_26 rfl rfl rfl rfl dX9_count_87 ?_
      refine V_iload hC 7 dX9_count_90 rfl ?_
      obtain ⟨hi, h⟩ := gd_some h
      refine V_iald (g := 0) (k := 6) hC rfl rfl hi dX9_count_92 ?_
      refine V_iload hC 4 dX9_count_93 rfl ?_
      refine V_icmp_eq (tgt := 101) hC dX9_count_95 (by decide) (fun c10 => ?_) (fun c10 => ?_)
      · have h := it_pos c10 h
        refine V_iload hC 5 dX9_count_101 rfl ?_
        refine V_jn1 (pj := 136) (lj := fun y12 => [(0, .ref (ad 0 0)), (1, .int b1), (2, .int b2), (3, .int b3), (4, .int b4), (6, .long x6), (8, .int x8)]) (sj := fun y12 => [.int y12]) h (fun y12 H13 h => ?_) (fun hj11 h => ?_)
        · refine V_istore (lv' := [(5, .int y12), (0, .ref (ad 0 0)), (1, .int b1), (2, .int b2), (3, .int b3), (4, .int b4), (6, .long x6), (8, .int x8)]) hC dX9_count_136 (Nat.le_of_ble_eq_true rfl) rfl ?_
          refine V_iload hC 0 dX9_count_138 rfl ?_
          refine V_if_eq (tgt := 188) hC dX9_count_140 (by decide) (fun c14 => ?_) (fun c14 => ?_)
          · have h := it_pos c14 h
            refine V_vi h (fun v15 hvv15 h => ?_)
            refine V_iinc (v := v15) (lv' := [(8, .int v15), (5, .int y12), (0, .ref (ad 0 0)), (1, .int b1), (2, .int b2), (3, .int b3), (4, .int b4), (6, .long x6)]) hC 7 dX9_count_188 rfl hvv15.symm (Nat.le_of_ble_eq_true rfl) rfl ?_
            refine V_goto (tgt := 70) hC dX9_count_191 (by decide) ?_
            refine V_lv (lv' := [(0, .ref (ad 0 0)), (1, .int b1), (2, .int b2), (3, .int b3), (4, .int b4), (5, .int y12), (6, .long x6), (8, .int v15)]) [2, 3, 4, 5, 6, 1, 7, 0] rfl ?_
            exact ih y12 x6 v15 H13 h
          · have h := it_neg c14 h
            refine V_aload_n hC 1 dX9_count_143 rfl ?_
            refine V_getR (g := 0) (k := 0) (g' := 0) (k' := 17) hC 9 17 fl_X9_60 rfl rfl rfl rfl dX9_count_144 ?_
            refine V_iload hC 7 dX9_count_147 rfl ?_
            refine V_lload hC 6 dX9_count_149 rfl ?_
            obtain ⟨hi, h⟩ := gd_some h
            refine V_last (g := 0) (k := 17) hC rfl rfl hi dX9_count_151 ?_
            refine V_hl h (fun H16 h => ?_)
            refine V_lload hC 6 dX9_count_152 rfl ?_
            refine V_aload_n hC 1 dX9_count_154 rfl ?_
            refine V_getR (g := 0) (k := 0) (g' := 0) (k' := 9) hC 9 9 fl_X9_35 rfl rfl rfl rfl dX9_count_155 ?_
            refine V_iload hC 7 dX9_count_158 rfl ?_
            obtain ⟨hi, h⟩ := gd_some h
            refine V_zald (g := 0) (k := 9) hC rfl rfl hi dX9_count_160 ?_
            refine V_if_eq (tgt := 168) hC dX9_count_161 (by decide) (fun c17 => ?_) (fun c17 => ?_)
            · have h := it_pos c17 h
              refine V_aload_n hC 1 dX9_count_168 rfl ?_
              refine V_getR (g := 0) (k := 0) (g' := 0) (k' := 15) hC 9 15 fl_X9_54 rfl rfl rfl rfl dX9_count_169 ?_
              refine V_bipush (v := 20) hC dX9_count_172 (by decide) ?_
              refine V_iload_n hC 2 dX9_count_174 rfl ?_
              refine V_imul hC dX9_count_175 ?_
              refine V_aload_n hC 1 dX9_count_176 rfl ?_
              refine V_getR (g := 0) (k := 0) (g' := 0) (k' := 7) hC 9 7 fl_X9_29 rfl rfl rfl rfl dX9_count_177 ?_
              refine V_iload hC 7 dX9_count_180 rfl ?_
              obtain ⟨hi, h⟩ := gd_some h
              refine V_iald (g := 0) (k := 7) hC rfl rfl hi dX9_count_182 ?_
              refine V_iadd hC dX9_count_183 ?_
              obtain ⟨hi, h⟩ := gd_some h
              refine V_lald (g := 0) (k := 15) hC rfl rfl hi dX9_count_184 ?_
              refine V_ladd hC dX9_count_185 ?_
              refine V_vlJ h (fun v18 h => ?_)
              refine V_lstore (lv' := [(6, .long v18), (5, .int y12), (0, .ref (ad 0 0)), (1, .int b1), (2, .int b2), (3, .int b3), (4, .int b4), (8, .int x8)]) hC dX9_count_186 (Nat.le_of_ble_eq_true rfl) rfl ?_
              refine V_vi h (fun v19 hvv19 h => ?_)
              refine V_iinc (v := v19) (lv' := [(8, .int v19), (6, .long v18), (5, .int y12), (0, .ref (ad 0 0)), (1, .int b1), (2, .int b2), (3, .int b3), (4, .int b4)]) hC 7 dX9_count_188 rfl hvv19.symm (Nat.le_of_ble_eq_true rfl) rfl ?_
              refine V_goto (tgt := 70) hC dX9_count_191 (by decide) ?_
              refine V_lv (lv' := [(0, .ref (ad 0 0)), (1, .int b1), (2, .int b2), (3, .int b3), (4, .int b4), (5, .int y12), (6, .long v18), (8, .int v19)]) [3, 4, 5, 6, 7, 2, 1, 0] rfl ?_
              exact ih y12 v18 v19 H16 h
            · have h := it_neg c17 h
              refine V_lconst (v := 1) hC dX9_count_164 (by decide) ?_
              refine V_goto (tgt := 185) hC dX9_count_165 (by decide) ?_
              refine V_ladd hC dX9_count_185 ?_
              refine V_vlJ h (fun v20 h => ?_)
              refine V_lstore (lv' := [(6, .long v20), (5, .int y12), (0, .ref (ad 0 0)), (1, .int b1), (2, .int b2), (3, .int b3), (4, .int b4), (8, .int x8)]) hC dX9_count_186 (Nat.le_of_ble_eq_true rfl) rfl ?_
              refine V_vi h (fun v21 hvv21 h => ?_)
              refine V_iinc (v := v21) (lv' := [(8, .int v21), (6, .long v20), (5, .int y12), (0, .ref (ad 0 0)), (1, .int b1), (2, .int b2), (3, .int b3), (4, .int b4)]) hC 7 dX9_count_188 rfl hvv21.symm (Nat.le_of_ble_eq_true rfl) rfl ?_
              refine V_goto (tgt := 70) hC dX9_count_191 (by decide) ?_
              refine V_lv (lv' := [(0, .ref (ad 0 0)), (1, .int b1), (2, .int b2), (3, .int b3), (4, .int b4), (5, .int y12), (6, .long v20), (8, .int v21)]) [3, 4, 5, 6, 7, 2, 1, 0] rfl ?_
              exact ih y12 v20 v21 H16 h
        · refine V_if_eq (tgt := 135) hC dX9_count_103 (by decide) (fun c22 => ?_) (fun c22 => ?_)
          · have h := it_pos c22 h
            refine V_iconst (v := 0) hC dX9_count_135 (by decide) ?_
            refine V_lv (lv' := [(0, .ref (ad 0 0)), (1, .int b1), (2, .int b2), (3, .int b3), (4, .int b4), (6, .long x6), (8, .int x8)]) [0, 1, 2, 3, 4, 6, 7] rfl ?_
            exact hj11 0 H h
          · have h := it_neg c22 h
            refine V_aload_n hC 0 dX9_count_106 rfl ?_
            refine V_getR (g := 0) (k := 0) (g' := 0) (k' := 9) hC 9 9 fl_X9_35 rfl rfl rfl rfl dX9_count_107 ?_
            refine V_iload hC 7 dX9_count_110 rfl ?_
            obtain ⟨hi, h⟩ := gd_some h
            refine V_zald (g := 0) (k := 9) hC rfl rfl hi dX9_count_112 ?_
            refine V_if_ne (tgt := 131) hC dX9_count_113 (by decide) (fun c23 => ?_) (fun c23 => ?_)
            · have h := it_neg c23 h
              refine V_iconst (v := 1) hC dX9_count_131 (by decide) ?_
              refine V_goto (tgt := 136) hC dX9_count_132 (by decide) ?_
              refine V_lv (lv' := [(0, .ref (ad 0 0)), (1, .int b1), (2, .int b2), (3, .int b3), (4, .int b4), (6, .long x6), (8, .int x8)]) [0, 1, 2, 3, 4, 6, 7] rfl ?_
              exact hj11 1 H h
            · have h := it_pos c23 h
              refine V_aload_n hC 0 dX9_count_116 rfl ?_
              refine V_getR (g := 0) (k := 0) (g' := 0) (k' := 35) hC 9 35 fl_X9_99 rfl rfl rfl rfl dX9_count_117 ?_
              refine V_aload_n hC 0 dX9_count_120 rfl ?_
              refine V_getR (g := 0) (k := 0) (g' := 0) (k' := 7) hC 9 7 fl_X9_29 rfl rfl rfl rfl dX9_count_121 ?_
              refine V_iload hC 7 dX9_count_124 rfl ?_
              obtain ⟨hi, h⟩ := gd_some h
              refine V_iald (g := 0) (k := 7) hC rfl rfl hi dX9_count_126 ?_
              obtain ⟨hi, h⟩ := gd_some h
              refine V_zald (g := 0) (k := 35) hC rfl rfl hi dX9_count_127 ?_
              refine V_if_eq (tgt := 135) hC dX9_count_128 (by decide) (fun c24 => ?_) (fun c24 => ?_)
              · have h := it_pos c24 h
                refine V_iconst (v := 0) hC dX9_count_135 (by decide) ?_
                refine V_lv (lv' := [(0, .ref (ad 0 0)), (1, .int b1), (2, .int b2), (3, .int b3), (4, .int b4), (6, .long x6), (8, .int x8)]) [0, 1, 2, 3, 4, 6, 7] rfl ?_
                exact hj11 0 H h
              · have h := it_neg c24 h
                refine V_iconst (v := 1) hC dX9_count_131 (by decide) ?_
                refine V_goto (tgt := 136) hC dX9_count_132 (by decide) ?_
                refine V_lv (lv' := [(0, .ref (ad 0 0)), (1, .int b1), (2, .int b2), (3, .int b3), (4, .int b4), (6, .long x6), (8, .int x8)]) [0, 1, 2, 3, 4, 6, 7] rfl ?_
                exact hj11 1 H h
      · have h := it_neg c10 h
        refine V_goto (tgt := 188) hC dX9_count_98 (by decide) ?_
        refine V_vi h (fun v25 hvv25 h => ?_)
        refine V_iinc (v := v25) (lv' := [(8, .int v25), (0, .ref (ad 0 0)), (1, .int b1), (2, .int b2), (3, .int b3), (4, .int b4), (5, .int x5), (6, .long x6)]) hC 7 dX9_count_188 rfl hvv25.symm (Nat.le_of_ble_eq_true rfl) rfl ?_
        refine V_goto (tgt := 70) hC dX9_count_191 (by decide) ?_
        refine V_lv (lv' := [(0, .ref (ad 0 0)), (1, .int b1), (2, .int b2), (3, .int b3), (4, .int b4), (5, .int x5), (6, .long x6), (8, .int v25)]) [1, 2, 3, 4, 5, 6, 7, 0] rfl ?_
        exact ih x5 x6 v25 H h
def L_X9_count_34 (b1 : Int32) (k : Int32 → Int32 → Hp → Option (Int32 × Hp)) : Nat → Int32 → Int32 → Int32 → Hp → Option (Int32 × Hp)
  | 0, _, _, _, _ => none
  | n + 1, x2, x3, x4, H => gd b1 8 (if (gI H 0 1 (Int32.toNatClampNeg b1)) ≤ x4 then k x2 x3 H else gd x4 21 (if (gI H 0 35 (Int32.toNatClampNeg x4)) = 0 then vl ((40 * b1)) (fun (v8 : Int32) => L_X9_count_70 b1 x2 x3 x4 (fun (z26 : Int32) (z27 : Int64) (H28 : Hp) => if z26 = 0 then vl (x4 + (1 : Int32)) (fun (v40 : Int32) => L_X9_count_34 b1 k n x2 x3 v40 H28) else gd ((20 * b1) + x4) 160 (vl ((gI H28 0 4 (Int32.toNatClampNeg ((20 * b1) + x4)))) (fun (v30 : Int32) => jn (fun (y32 : Int64) (H33 : Hp) => gd ((20 * b1) + x4) 160 (hl (sJ H33 0 15 (Int32.toNatClampNeg ((20 * b1) + x4)) y32) (fun (H34 : Hp) => gd x4 21 (hl (sI H34 0 35 (Int32.toNatClampNeg x4) (vp_nar .boolean 1)) (fun (H35 : Hp) => vl (x2 + (1 : Int32)) (fun (v36 : Int32) => vl (x4 + (1 : Int32)) (fun (v37 : Int32) => L_X9_count_34 b1 k n v36 1 v37 H35))))))) (fun j31 => if v30 = 3 then j31 1 H28 else if v30 = 4 then j31 1 H28 else j31 z27 H28)))) FU 1 0 v8 H) else vl (x4 + (1 : Int32)) (fun (v41 : Int32) => L_X9_count_34 b1 k n x2 x3 v41 H)))
set_option maxRecDepth 100000 in
set_option maxHeartbeats 4000000 in
theorem sL_X9_count_34 {p : Program} {l : Launch} {e : Env} {s : State} {m : MethodId} {args : Array Value} {below : List Frame} {meth : Method} {c : Code} {A : Nat → Prop} {D : va_G} {K4 : kQ} {ad : Nat → Nat → Nat} {nr : Nat} {b1 : Int32} {k : Int32 → Int32 → Hp → Option (Int32 × Hp)} {res : Int32 × Hp} (hC : Cx p s m args c A s.heap D K4 9 RX9 cX9_count) (hret : meth.sig.returnType = (some .boolean) ∧ meth.locks = false) (hk : ∀ (z2 : Int32) (z3 : Int32) (H : Hp), k z2 z3 H = some res → V p l e ({ frames := 0, cells := 0, slots := 0, locals := 0 }) s m args below meth c A s.heap (QI below args s A D K4 ad nr res) D K4 ad nr 9 265 [(0, .ref (ad 0 0)), (1, .int b1), (2, .int z2), (3, .int z3)] [] H) : ∀ (n : Nat) (x2 : Int32) (x3 : Int32) (x4 : Int32) (H : Hp), L_X9_count_34 b1 k n x2 x3 x4 H = some res → V p l e ({ frames := 0, cells := 0, slots := 0, locals := 0 }) s m args below meth c A s.heap (QI below args s A D K4 ad nr res) D K4 ad nr 9 34 [(0, .ref (ad 0 0)), (1, .int b1), (2, .int x2), (3, .int x3), (4, .int x4)] [] H := by
  intro n
  induction n with
  | zero => intro x2 x3 x4 H h; exact nomatch (show (none : Option (Int32 × Hp)) = some res from h)
  | succ n ih =>
    intro x2 x3 x4 H h
    rw [L_X9_count_34] at h
    refine V_iload hC 4 dX9_count_34 rfl ?_
    refine V_aload_n hC 0 dX9_count_36 rfl ?_
    refine V_getR (g := 0) (k := 0) (g' := 0) (k' := 1) hC 9 1 fl_X9_7 rfl rfl rfl rfl dX9_count_37 ?_
    refine V_iload_n hC 1 dX9_count_40 rfl ?_
    obtain ⟨hi, h⟩ := gd_some h
    refine V_iald (g := 0) (k := 1) hC rfl rfl hi dX9_count_41 ?_
    refine V_icmp_ge (tgt := 265) hC dX9_count_42 (by decide) (fun c6 => ?_) (fun c6 => ?_)
    · have h := it_pos c6 h
      refine V_lv (lv' := [(0, .ref (ad 0 0)), (1, .int b1), (2, .int x2), (3, .int x3)]) [0, 1, 2, 3] rfl ?_
      exact hk x2 x3 H h
    · have h := it_neg c6 h
      refine V_aload_n hC 0 dX9_count_45 rfl ?_
      refine V_getR (g := 0) (k := 0) (g' := 0) (k' := 35) hC 9 35 fl_X9_99 rfl rfl rfl rfl dX9_count_46 ?_
      refine V_iload hC 4 dX9_count_49 rfl ?_
      obtain ⟨hi, h⟩ := gd_some h
      refine V_zald (g := 0) (k := 35) hC rfl rfl hi dX9_count_51 ?_
      refine V_if_eq (tgt := 58) hC dX9_count_52 (by decide) (fun c7 => ?_) (fun c7 => ?_)
      · have h := it_pos c7 h
        refine V_iconst (v := 1) hC dX9_count_58 (by decide) ?_
        refine V_istore (lv' := [(5, .int 1), (0, .ref (ad 0 0)), (1, .int b1), (2, .int x2), (3, .int x3), (4, .int x4)]) hC dX9_count_59 (Nat.le_of_ble_eq_true rfl) rfl ?_
        refine V_lconst (v := 0) hC dX9_count_61 (by decide) ?_
        refine V_lstore (lv' := [(6, .long 0), (5, .int 1), (0, .ref (ad 0 0)), (1, .int b1), (2, .int x2), (3, .int x3), (4, .int x4)]) hC dX9_count_62 (Nat.le_of_ble_eq_true rfl) rfl ?_
        refine V_bipush (v := 40) hC dX9_count_64 (by decide) ?_
        refine V_iload_n hC 3 dX9_count_66 rfl ?_
        refine V_imul hC dX9_count_67 ?_
        refine V_vlI h (fun v8 h => ?_)
        refine V_istore (lv' := [(8, .int v8), (6, .long 0), (5, .int 1), (0, .ref (ad 0 0)), (1, .int b1), (2, .int x2), (3, .int x3), (4, .int x4)]) hC dX9_count_68 (Nat.le_of_ble_eq_true rfl) rfl ?_
        refine V_lv (lv' := [(0, .ref (ad 0 0)), (1, .int b1), (2, .int x2), (3, .int x3), (4, .int x4), (5, .int 1), (6, .long 0), (8, .int v8)]) [3, 4, 5, 6, 7, 2, 1, 0] rfl ?_
        refine sL_X9_count_70 hC hret (fun z26 z27 H28 h => ?_) _ 1 0 v8 H h
        refine V_iload hC 5 dX9_count_194 rfl ?_
        refine V_if_ne (tgt := 202) hC dX9_count_196 (by decide) (fun c29 => ?_) (fun c29 => ?_)
        · have h := it_neg c29 h
          refine V_aload_n hC 0 dX9_count_202 rfl ?_
          refine V_getR (g := 0) (k := 0) (g' := 0) (k' := 4) hC 9 4 fl_X9_20 rfl rfl rfl rfl dX9_count_203 ?_
          refine V_bipush (v := 20) hC dX9_count_206 (by decide) ?_
          refine V_iload_n hC 1 dX9_count_208 rfl ?_
          refine V_imul hC dX9_count_209 ?_
          refine V_iload hC 4 dX9_count_210 rfl ?_
          refine V_iadd hC dX9_count_212 ?_
          obtain ⟨hi, h⟩ := gd_some h
          refine V_iald (g := 0) (k := 4) hC rfl rfl hi dX9_count_213 ?_
          refine V_vlI h (fun v30 h => ?_)
          refine V_istore (lv' := [(8, .int v30), (0, .ref (ad 0 0)), (1, .int b1), (2, .int x2), (3, .int x3), (4, .int x4), (5, .int z26), (6, .long z27)]) hC dX9_count_214 (Nat.le_of_ble_eq_true rfl) rfl ?_
          refine V_aload_n hC 1 dX9_count_216 rfl ?_
          refine V_getR (g := 0) (k := 0) (g' := 0) (k' := 15) hC 9 15 fl_X9_54 rfl rfl rfl rfl dX9_count_217 ?_
          refine V_bipush (v := 20) hC dX9_count_220 (by decide) ?_
          refine V_iload_n hC 2 dX9_count_222 rfl ?_
          refine V_imul hC dX9_count_223 ?_
          refine V_iload hC 5 dX9_count_224 rfl ?_
          refine V_iadd hC dX9_count_226 ?_
          refine V_iload hC 0 dX9_count_227 rfl ?_
          refine V_iconst (v := 3) hC dX9_count_229 (by decide) ?_
          refine V_jn1 (pj := 245) (lj := fun y32 => [(0, .ref (ad 0 0)), (1, .int b1), (2, .int x2), (4, .int x4)]) (sj := fun y32 => [.long y32, .int ((20 * b1) + x4), .ref (ad 0 15)]) h (fun y32 H33 h => ?_) (fun hj31 h => ?_)
          · obtain ⟨hi, h⟩ := gd_some h
            refine V_last (g := 0) (k := 15) hC rfl rfl hi dX9_count_245 ?_
            refine V_hl h (fun H34 h => ?_)
            refine V_aload_n hC 0 dX9_count_246 rfl ?_
            refine V_getR (g := 0) (k := 0) (g' := 0) (k' := 35) hC 9 35 fl_X9_99 rfl rfl rfl rfl dX9_count_247 ?_
            refine V_iload hC 3 dX9_count_250 rfl ?_
            refine V_iconst (v := 1) hC dX9_count_252 (by decide) ?_
            obtain ⟨hi, h⟩ := gd_some h
            refine V_zast (g := 0) (k := 35) hC rfl rfl hi dX9_count_253 ?_
            refine V_hl h (fun H35 h => ?_)
            refine V_vi h (fun v36 hvv36 h => ?_)
            refine V_iinc (v := v36) (lv' := [(2, .int v36), (0, .ref (ad 0 0)), (1, .int b1), (4, .int x4)]) hC 2 dX9_count_254 rfl hvv36.symm (Nat.le_of_ble_eq_true rfl) rfl ?_
            refine V_iconst (v := 1) hC dX9_count_257 (by decide) ?_
            refine V_istore_n (lv' := [(3, .int 1), (2, .int v36), (0, .ref (ad 0 0)), (1, .int b1), (4, .int x4)]) hC dX9_count_258 (Nat.le_of_ble_eq_true rfl) rfl ?_
            refine V_vi h (fun v37 hvv37 h => ?_)
            refine V_iinc (v := v37) (lv' := [(4, .int v37), (3, .int 1), (2, .int v36), (0, .ref (ad 0 0)), (1, .int b1)]) hC 4 dX9_count_259 rfl hvv37.symm (Nat.le_of_ble_eq_true rfl) rfl ?_
            refine V_goto (tgt := 34) hC dX9_count_262 (by decide) ?_
            refine V_lv (lv' := [(0, .ref (ad 0 0)), (1, .int b1), (2, .int v36), (3, .int 1), (4, .int v37)]) [3, 4, 2, 1, 0] rfl ?_
            exact ih v36 1 v37 H35 h
          · refine V_icmp_eq (tgt := 239) hC dX9_count_230 (by decide) (fun c38 => ?_) (fun c38 => ?_)
            · have h := it_pos c38 h
              refine V_lconst (v := 1) hC dX9_count_239 (by decide) ?_
              refine V_goto (tgt := 245) hC dX9_count_240 (by decide) ?_
              refine V_lv (lv' := [(0, .ref (ad 0 0)), (1, .int b1), (2, .int x2), (4, .int x4)]) [1, 2, 3, 5] rfl ?_
              exact hj31 1 H28 h
            · have h := it_neg c38 h
              refine V_iload hC 0 dX9_count_233 rfl ?_
              refine V_iconst (v := 4) hC dX9_count_235 (by decide) ?_
              refine V_icmp_ne (tgt := 243) hC dX9_count_236 (by decide) (fun c39 => ?_) (fun c39 => ?_)
              · have h := it_neg c39 h
                refine V_lload hC 7 dX9_count_243 rfl ?_
                refine V_lv (lv' := [(0, .ref (ad 0 0)), (1, .int b1), (2, .int x2), (4, .int x4)]) [1, 2, 3, 5] rfl ?_
                exact hj31 z27 H28 h
              · have h := it_pos c39 h
                refine V_lconst (v := 1) hC dX9_count_239 (by decide) ?_
                refine V_goto (tgt := 245) hC dX9_count_240 (by decide) ?_
                refine V_lv (lv' := [(0, .ref (ad 0 0)), (1, .int b1), (2, .int x2), (4, .int x4)]) [1, 2, 3, 5] rfl ?_
                exact hj31 1 H28 h
        · have h := it_pos c29 h
          refine V_goto (tgt := 259) hC dX9_count_199 (by decide) ?_
          refine V_vi h (fun v40 hvv40 h => ?_)
          refine V_iinc (v := v40) (lv' := [(4, .int v40), (0, .ref (ad 0 0)), (1, .int b1), (2, .int x2), (3, .int x3), (5, .int z26), (6, .long z27)]) hC 4 dX9_count_259 rfl hvv40.symm (Nat.le_of_ble_eq_true rfl) rfl ?_
          refine V_goto (tgt := 34) hC dX9_count_262 (by decide) ?_
          refine V_lv (lv' := [(0, .ref (ad 0 0)), (1, .int b1), (2, .int x2), (3, .int x3), (4, .int v40)]) [1, 2, 3, 4, 0] rfl ?_
          exact ih x2 x3 v40 H28 h
      · have h := it_neg c7 h
        refine V_goto (tgt := 259) hC dX9_count_55 (by decide) ?_
        refine V_vi h (fun v41 hvv41 h => ?_)
        refine V_iinc (v := v41) (lv' := [(4, .int v41), (0, .ref (ad 0 0)), (1, .int b1), (2, .int x2), (3, .int x3)]) hC 4 dX9_count_259 rfl hvv41.symm (Nat.le_of_ble_eq_true rfl) rfl ?_
        refine V_goto (tgt := 34) hC dX9_count_262 (by decide) ?_
        refine V_lv (lv' := [(0, .ref (ad 0 0)), (1, .int b1), (2, .int x2), (3, .int x3), (4, .int v41)]) [1, 2, 3, 4, 0] rfl ?_
        exact ih x2 x3 v41 H h
def L_X9_count_25 (b1 : Int32) (k : Int32 → Hp → Option (Int32 × Hp)) : Nat → Int32 → Int32 → Hp → Option (Int32 × Hp)
  | 0, _, _, _ => none
  | n + 1, x2, x3, H => if x3 = 0 then k x2 H else L_X9_count_34 b1 (fun (z42 : Int32) (z43 : Int32) (H44 : Hp) => L_X9_count_25 b1 k n z42 z43 H44) FU x2 0 0 H
set_option maxRecDepth 100000 in
set_option maxHeartbeats 4000000 in
theorem sL_X9_count_25 {p : Program} {l : Launch} {e : Env} {s : State} {m : MethodId} {args : Array Value} {below : List Frame} {meth : Method} {c : Code} {A : Nat → Prop} {D : va_G} {K4 : kQ} {ad : Nat → Nat → Nat} {nr : Nat} {b1 : Int32} {k : Int32 → Hp → Option (Int32 × Hp)} {res : Int32 × Hp} (hC : Cx p s m args c A s.heap D K4 9 RX9 cX9_count) (hret : meth.sig.returnType = (some .boolean) ∧ meth.locks = false) (hk : ∀ (z2 : Int32) (H : Hp), k z2 H = some res → V p l e ({ frames := 0, cells := 0, slots := 0, locals := 0 }) s m args below meth c A s.heap (QI below args s A D K4 ad nr res) D K4 ad nr 9 268 [(0, .ref (ad 0 0)), (1, .int b1), (2, .int z2)] [] H) : ∀ (n : Nat) (x2 : Int32) (x3 : Int32) (H : Hp), L_X9_count_25 b1 k n x2 x3 H = some res → V p l e ({ frames := 0, cells := 0, slots := 0, locals := 0 }) s m args below meth c A s.heap (QI below args s A D K4 ad nr res) D K4 ad nr 9 25 [(0, .ref (ad 0 0)), (1, .int b1), (2, .int x2), (3, .int x3)] [] H := by
  intro n
  induction n with
  | zero => intro x2 x3 H h; exact nomatch (show (none : Option (Int32 × Hp)) = some res from h)
  | succ n ih =>
    intro x2 x3 H h
    rw [L_X9_count_25] at h
    refine V_iload_n hC 3 dX9_count_25 rfl ?_
    refine V_if_eq (tgt := 268) hC dX9_count_26 (by decide) (fun c5 => ?_) (fun c5 => ?_)
    · have h := it_pos c5 h
      refine V_lv (lv' := [(0, .ref (ad 0 0)), (1, .int b1), (2, .int x2)]) [0, 1, 2] rfl ?_
      exact hk x2 H h
    · have h := it_neg c5 h
      refine V_iconst (v := 0) hC dX9_count_29 (by decide) ?_
      refine V_istore_n (lv' := [(3, .int 0), (0, .ref (ad 0 0)), (1, .int b1), (2, .int x2)]) hC dX9_count_30 (Nat.le_of_ble_eq_true rfl) rfl ?_
      refine V_iconst (v := 0) hC dX9_count_31 (by decide) ?_
      refine V_istore (lv' := [(4, .int 0), (3, .int 0), (0, .ref (ad 0 0)), (1, .int b1), (2, .int x2)]) hC dX9_count_32 (Nat.le_of_ble_eq_true rfl) rfl ?_
      refine V_lv (lv' := [(0, .ref (ad 0 0)), (1, .int b1), (2, .int x2), (3, .int 0), (4, .int 0)]) [2, 3, 4, 1, 0] rfl ?_
      refine sL_X9_count_34 hC hret (fun z42 z43 H44 h => ?_) _ x2 0 0 H h
      refine V_goto (tgt := 25) hC dX9_count_265 (by decide) ?_
      refine V_lv (lv' := [(0, .ref (ad 0 0)), (1, .int b1), (2, .int z42), (3, .int z43)]) [0, 1, 2, 3] rfl ?_
      exact ih z42 z43 H44 h
def f_X9_count (a1 : Int32) (H : Hp) : Option (Int32 × Hp) := L_X9_count_2 a1 (fun (H4 : Hp) => L_X9_count_25 a1 (fun (z45 : Int32) (H46 : Hp) => gd a1 8 (if z45 = (gI H46 0 1 (Int32.toNatClampNeg a1)) then some (1, H46) else some (0, H46))) FU 0 1 H4) FU 0 H
set_option maxRecDepth 100000 in
set_option maxHeartbeats 4000000 in
theorem s_X9_count {p : Program} {l : Launch} {e : Env} {s : State} {m : MethodId} {args : Array Value} {below : List Frame} {meth : Method} {c : Code} {A : Nat → Prop} {D : va_G} {K4 : kQ} {ad : Nat → Nat → Nat} {nr : Nat} {a1 : Int32} {H : Hp} {res : Int32 × Hp} (hC : Cx p s m args c A s.heap D K4 9 RX9 cX9_count) (hret : meth.sig.returnType = (some .boolean) ∧ meth.locks = false) (h : f_X9_count a1 H = some res) : V p l e ({ frames := 0, cells := 0, slots := 0, locals := 0 }) s m args below meth c A s.heap (QI below args s A D K4 ad nr res) D K4 ad nr 9 0 [(0, .ref (ad 0 0)), (1, .int a1)] [] H := by
  unfold f_X9_count at h
  refine V_iconst (v := 0) hC dX9_count_0 (by decide) ?_
  refine V_istore_n (lv' := [(2, .int 0), (0, .ref (ad 0 0)), (1, .int a1)]) hC dX9_count_1 (Nat.le_of_ble_eq_true rfl) rfl ?_
  refine V_lv (lv' := [(0, .ref (ad 0 0)), (1, .int a1), (2, .int 0)]) [1, 2, 0] rfl ?_
  refine sL_X9_count_2 hC hret (fun H4 h => ?_) _ 0 H h
  refine V_iconst (v := 0) hC dX9_count_21 (by decide) ?_
  refine V_istore_n (lv' := [(2, .int 0), (0, .ref (ad 0 0)), (1, .int a1)]) hC dX9_count_22 (Nat.le_of_ble_eq_true rfl) rfl ?_
  refine V_iconst (v := 1) hC dX9_count_23 (by decide) ?_
  refine V_istore_n (lv' := [(3, .int 1), (2, .int 0), (0, .ref (ad 0 0)), (1, .int a1)]) hC dX9_count_24 (Nat.le_of_ble_eq_true rfl) rfl ?_
  refine V_lv (lv' := [(0, .ref (ad 0 0)), (1, .int a1), (2, .int 0), (3, .int 1)]) [2, 3, 1, 0] rfl ?_
  refine sL_X9_count_25 hC hret (fun z45 H46 h => ?_) _ 0 1 H4 h
  refine V_iload_n hC 2 dX9_count_268 rfl ?_
  refine V_aload_n hC 0 dX9_count_269 rfl ?_
  refine V_getR (g := 0) (k := 0) (g' := 0) (k' := 1) hC 9 1 fl_X9_7 rfl rfl rfl rfl dX9_count_270 ?_
  refine V_iload_n hC 1 dX9_count_273 rfl ?_
  obtain ⟨hi, h⟩ := gd_some h
  refine V_iald (g := 0) (k := 1) hC rfl rfl hi dX9_count_274 ?_
  refine V_icmp_ne (tgt := 282) hC dX9_count_275 (by decide) (fun c47 => ?_) (fun c47 => ?_)
  · have h := it_neg c47 h
    refine V_iconst (v := 0) hC dX9_count_282 (by decide) ?_
    exact V_zret hC hret (by decide) dX9_count_283 h
  · have h := it_pos c47 h
    refine V_iconst (v := 1) hC dX9_count_278 (by decide) ?_
    refine V_goto (tgt := 283) hC dX9_count_279 (by decide) ?_
    exact V_zret hC hret (by decide) dX9_count_283 h
theorem c_X9_count (l : Launch) {nr : Nat} {a1 : Int32} {H : Hp} {x : Int32} {H' : Hp} (h : f_X9_count a1 H = some (x, H')) : CI l nr yX9_count cX9_count 9 (some .boolean) 0 0 (fun ad => [.ref (ad 0 0), .int a1]) H x H' := by
  intro D K4 ad sz
  refine Met.ofV (by decide) (Nat.le_of_ble_eq_true rfl) ?_
  intro p e s m args below meth c hC hret hsz
  subst hsz
  exact s_X9_count hC hret h
theorem dX9_join_0 : decode cX9_join 0 = .ok (.aload_n 0, 1) := by decide +kernel
theorem dX9_join_1 : decode cX9_join 1 = .ok (.getfield 102, 3) := by decide +kernel
theorem dX9_join_4 : decode cX9_join 4 = .ok (.iload_n 1, 1) := by decide +kernel
theorem dX9_join_5 : decode cX9_join 5 = .ok (.iaload, 1) := by decide +kernel
theorem dX9_join_6 : decode cX9_join 6 = .ok (.istore_n 3, 1) := by decide +kernel
theorem dX9_join_7 : decode cX9_join 7 = .ok (.aload_n 0, 1) := by decide +kernel
theorem dX9_join_8 : decode cX9_join 8 = .ok (.getfield 102, 3) := by decide +kernel
theorem dX9_join_11 : decode cX9_join 11 = .ok (.iload_n 2, 1) := by decide +kernel
theorem dX9_join_12 : decode cX9_join 12 = .ok (.iaload, 1) := by decide +kernel
theorem dX9_join_13 : decode cX9_join 13 = .ok (.istore 4, 2) := by decide +kernel
theorem dX9_join_15 : decode cX9_join 15 = .ok (.iconst 0, 1) := by decide +kernel
theorem dX9_join_16 : decode cX9_join 16 = .ok (.istore 5, 2) := by decide +kernel
theorem dX9_join_18 : decode cX9_join 18 = .ok (.iload 5, 2) := by decide +kernel
theorem dX9_join_20 : decode cX9_join 20 = .ok (.bipush 21, 2) := by decide +kernel
theorem dX9_join_22 : decode cX9_join 22 = .ok (.if_icmp .ge 29, 3) := by decide +kernel
theorem dX9_join_25 : decode cX9_join 25 = .ok (.aload_n 0, 1) := by decide +kernel
theorem dX9_join_26 : decode cX9_join 26 = .ok (.getfield 102, 3) := by decide +kernel
theorem dX9_join_29 : decode cX9_join 29 = .ok (.iload 5, 2) := by decide +kernel
theorem dX9_join_31 : decode cX9_join 31 = .ok (.iaload, 1) := by decide +kernel
theorem dX9_join_32 : decode cX9_join 32 = .ok (.iload_n 3, 1) := by decide +kernel
theorem dX9_join_33 : decode cX9_join 33 = .ok (.if_icmp .ne 12, 3) := by decide +kernel
theorem dX9_join_36 : decode cX9_join 36 = .ok (.aload_n 0, 1) := by decide +kernel
theorem dX9_join_37 : decode cX9_join 37 = .ok (.getfield 102, 3) := by decide +kernel
theorem dX9_join_40 : decode cX9_join 40 = .ok (.iload 5, 2) := by decide +kernel
theorem dX9_join_42 : decode cX9_join 42 = .ok (.iload 4, 2) := by decide +kernel
theorem dX9_join_44 : decode cX9_join 44 = .ok (.iastore, 1) := by decide +kernel
theorem dX9_join_45 : decode cX9_join 45 = .ok (.iinc 5 1, 3) := by decide +kernel
theorem dX9_join_48 : decode cX9_join 48 = .ok (.goto (-30), 3) := by decide +kernel
theorem dX9_join_51 : decode cX9_join 51 = .ok (.return_, 1) := by decide +kernel
def L_X9_join_18 (b3 : Int32) (b4 : Int32) (k : Hp → Option (Unit × Hp)) : Nat → Int32 → Hp → Option (Unit × Hp)
  | 0, _, _ => none
  | n + 1, x5, H => if 21 ≤ x5 then k H else gd x5 21 (if (gI H 0 36 (Int32.toNatClampNeg x5)) = b3 then gd x5 21 (hl (sI H 0 36 (Int32.toNatClampNeg x5) b4) (fun (H6 : Hp) => vl (x5 + (1 : Int32)) (fun (v7 : Int32) => L_X9_join_18 b3 b4 k n v7 H6))) else vl (x5 + (1 : Int32)) (fun (v5 : Int32) => L_X9_join_18 b3 b4 k n v5 H))
set_option maxRecDepth 100000 in
set_option maxHeartbeats 4000000 in
theorem sL_X9_join_18 {p : Program} {l : Launch} {e : Env} {s : State} {m : MethodId} {args : Array Value} {below : List Frame} {meth : Method} {c : Code} {A : Nat → Prop} {D : va_G} {K4 : kQ} {ad : Nat → Nat → Nat} {nr : Nat} {b3 : Int32} {b4 : Int32} {k : Hp → Option (Unit × Hp)} {res : Unit × Hp} (hC : Cx p s m args c A s.heap D K4 6 RX9 cX9_join) (hret : meth.sig.returnType = none ∧ meth.locks = false) (hk : ∀ (H : Hp), k H = some res → V p l e ({ frames := 0, cells := 0, slots := 0, locals := 0 }) s m args below meth c A s.heap (QU below args s A D K4 ad nr res) D K4 ad nr 6 51 [] [] H) : ∀ (n : Nat) (x5 : Int32) (H : Hp), L_X9_join_18 b3 b4 k n x5 H = some res → V p l e ({ frames := 0, cells := 0, slots := 0, locals := 0 }) s m args below meth c A s.heap (QU below args s A D K4 ad nr res) D K4 ad nr 6 18 [(0, .ref (ad 0 0)), (3, .int b3), (4, .int b4), (5, .int x5)] [] H := by
  intro n
  induction n with
  | zero => intro x5 H h; exact nomatch (show (none : Option (Unit × Hp)) = some res from h)
  | succ n ih =>
    intro x5 H h
    rw [L_X9_join_18] at h
    refine V_iload hC 3 dX9_join_18 rfl ?_
    refine V_bipush (v := 21) hC dX9_join_20 (by decide) ?_
    refine V_icmp_ge (tgt := 51) hC dX9_join_22 (by decide) (fun c3 => ?_) (fun c3 => ?_)
    · have h := it_pos c3 h
      refine V_lv (lv' := []) [] rfl ?_
      exact hk H h
    · have h := it_neg c3 h
      refine V_aload_n hC 0 dX9_join_25 rfl ?_
      refine V_getR (g := 0) (k := 0) (g' := 0) (k' := 36) hC 9 36 fl_X9_102 rfl rfl rfl rfl dX9_join_26 ?_
      refine V_iload hC 3 dX9_join_29 rfl ?_
      obtain ⟨hi, h⟩ := gd_some h
      refine V_iald (g := 0) (k := 36) hC rfl rfl hi dX9_join_31 ?_
      refine V_iload_n hC 1 dX9_join_32 rfl ?_
      refine V_icmp_ne (tgt := 45) hC dX9_join_33 (by decide) (fun c4 => ?_) (fun c4 => ?_)
      · have h := it_neg c4 h
        refine V_vi h (fun v5 hvv5 h => ?_)
        refine V_iinc (v := v5) (lv' := [(5, .int v5), (0, .ref (ad 0 0)), (3, .int b3), (4, .int b4)]) hC 3 dX9_join_45 rfl hvv5.symm (Nat.le_of_ble_eq_true rfl) rfl ?_
        refine V_goto (tgt := 18) hC dX9_join_48 (by decide) ?_
        refine V_lv (lv' := [(0, .ref (ad 0 0)), (3, .int b3), (4, .int b4), (5, .int v5)]) [1, 2, 3, 0] rfl ?_
        exact ih v5 H h
      · have h := it_pos c4 h
        refine V_aload_n hC 0 dX9_join_36 rfl ?_
        refine V_getR (g := 0) (k := 0) (g' := 0) (k' := 36) hC 9 36 fl_X9_102 rfl rfl rfl rfl dX9_join_37 ?_
        refine V_iload hC 3 dX9_join_40 rfl ?_
        refine V_iload hC 2 dX9_join_42 rfl ?_
        obtain ⟨hi, h⟩ := gd_some h
        refine V_iast (g := 0) (k := 36) hC rfl rfl hi dX9_join_44 ?_
        refine V_hl h (fun H6 h => ?_)
        refine V_vi h (fun v7 hvv7 h => ?_)
        refine V_iinc (v := v7) (lv' := [(5, .int v7), (0, .ref (ad 0 0)), (3, .int b3), (4, .int b4)]) hC 3 dX9_join_45 rfl hvv7.symm (Nat.le_of_ble_eq_true rfl) rfl ?_
        refine V_goto (tgt := 18) hC dX9_join_48 (by decide) ?_
        refine V_lv (lv' := [(0, .ref (ad 0 0)), (3, .int b3), (4, .int b4), (5, .int v7)]) [1, 2, 3, 0] rfl ?_
        exact ih v7 H6 h
def f_X9_join (a1 : Int32) (a2 : Int32) (H : Hp) : Option (Unit × Hp) := gd a1 21 (vl ((gI H 0 36 (Int32.toNatClampNeg a1))) (fun (v1 : Int32) => gd a2 21 (vl ((gI H 0 36 (Int32.toNatClampNeg a2))) (fun (v2 : Int32) => L_X9_join_18 v1 v2 (fun (H8 : Hp) => some ((), H8)) FU 0 H))))
set_option maxRecDepth 100000 in
set_option maxHeartbeats 4000000 in
theorem s_X9_join {p : Program} {l : Launch} {e : Env} {s : State} {m : MethodId} {args : Array Value} {below : List Frame} {meth : Method} {c : Code} {A : Nat → Prop} {D : va_G} {K4 : kQ} {ad : Nat → Nat → Nat} {nr : Nat} {a1 : Int32} {a2 : Int32} {H : Hp} {res : Unit × Hp} (hC : Cx p s m args c A s.heap D K4 6 RX9 cX9_join) (hret : meth.sig.returnType = none ∧ meth.locks = false) (h : f_X9_join a1 a2 H = some res) : V p l e ({ frames := 0, cells := 0, slots := 0, locals := 0 }) s m args below meth c A s.heap (QU below args s A D K4 ad nr res) D K4 ad nr 6 0 [(0, .ref (ad 0 0)), (1, .int a1), (2, .int a2)] [] H := by
  unfold f_X9_join at h
  refine V_aload_n hC 0 dX9_join_0 rfl ?_
  refine V_getR (g := 0) (k := 0) (g' := 0) (k' := 36) hC 9 36 fl_X9_102 rfl rfl rfl rfl dX9_join_1 ?_
  refine V_iload_n hC 1 dX9_join_4 rfl ?_
  obtain ⟨hi, h⟩ := gd_some h
  refine V_iald (g := 0) (k := 36) hC rfl rfl hi dX9_join_5 ?_
  refine V_vlI h (fun v1 h => ?_)
  refine V_istore_n (lv' := [(3, .int v1), (0, .ref (ad 0 0)), (1, .int a1), (2, .int a2)]) hC dX9_join_6 (Nat.le_of_ble_eq_true rfl) rfl ?_
  refine V_aload_n hC 1 dX9_join_7 rfl ?_
  refine V_getR (g := 0) (k := 0) (g' := 0) (k' := 36) hC 9 36 fl_X9_102 rfl rfl rfl rfl dX9_join_8 ?_
  refine V_iload_n hC 3 dX9_join_11 rfl ?_
  obtain ⟨hi, h⟩ := gd_some h
  refine V_iald (g := 0) (k := 36) hC rfl rfl hi dX9_join_12 ?_
  refine V_vlI h (fun v2 h => ?_)
  refine V_istore (lv' := [(4, .int v2), (3, .int v1), (0, .ref (ad 0 0)), (1, .int a1), (2, .int a2)]) hC dX9_join_13 (Nat.le_of_ble_eq_true rfl) rfl ?_
  refine V_iconst (v := 0) hC dX9_join_15 (by decide) ?_
  refine V_istore (lv' := [(5, .int 0), (4, .int v2), (3, .int v1), (0, .ref (ad 0 0)), (1, .int a1), (2, .int a2)]) hC dX9_join_16 (Nat.le_of_ble_eq_true rfl) rfl ?_
  refine V_lv (lv' := [(0, .ref (ad 0 0)), (3, .int v1), (4, .int v2), (5, .int 0)]) [3, 2, 1, 0] rfl ?_
  refine sL_X9_join_18 hC hret (fun H8 h => ?_) _ 0 H h
  exact V_vret hC hret dX9_join_51 h
theorem c_X9_join (l : Launch) {nr : Nat} {a1 : Int32} {a2 : Int32} {H : Hp} {x : Unit} {H' : Hp} (h : f_X9_join a1 a2 H = some (x, H')) : CU l nr yX9_join cX9_join 6 none 0 0 (fun ad => [.ref (ad 0 0), .int a1, .int a2]) H x H' := by
  intro D K4 ad sz
  refine Met.ofV (by decide) (Nat.le_of_ble_eq_true rfl) ?_
  intro p e s m args below meth c hC hret hsz
  subst hsz
  exact s_X9_join hC hret h
theorem dX9_look_0 : decode cX9_look 0 = .ok (.aload_n 0, 1) := by decide +kernel
theorem dX9_look_1 : decode cX9_look 1 = .ok (.iconst 0, 1) := by decide +kernel
theorem dX9_look_2 : decode cX9_look 2 = .ok (.putfield 153, 3) := by decide +kernel
theorem dX9_look_5 : decode cX9_look 5 = .ok (.aload_n 0, 1) := by decide +kernel
theorem dX9_look_6 : decode cX9_look 6 = .ok (.iload_n 1, 1) := by decide +kernel
theorem dX9_look_7 : decode cX9_look 7 = .ok (.invokevirtual 160, 3) := by decide +kernel
theorem dX9_look_10 : decode cX9_look 10 = .ok (.ifCond .ne 9, 3) := by decide +kernel
theorem dX9_look_13 : decode cX9_look 13 = .ok (.aload_n 0, 1) := by decide +kernel
theorem dX9_look_14 : decode cX9_look 14 = .ok (.iconst 1, 1) := by decide +kernel
theorem dX9_look_15 : decode cX9_look 15 = .ok (.invokevirtual 214, 3) := by decide +kernel
theorem dX9_look_18 : decode cX9_look 18 = .ok (.lreturn, 1) := by decide +kernel
theorem dX9_look_19 : decode cX9_look 19 = .ok (.iload_n 2, 1) := by decide +kernel
theorem dX9_look_20 : decode cX9_look 20 = .ok (.ifCond .lt 9, 3) := by decide +kernel
theorem dX9_look_23 : decode cX9_look 23 = .ok (.iload_n 2, 1) := by decide +kernel
theorem dX9_look_24 : decode cX9_look 24 = .ok (.bipush 9, 2) := by decide +kernel
theorem dX9_look_26 : decode cX9_look 26 = .ok (.if_icmp .le 9, 3) := by decide +kernel
theorem dX9_look_29 : decode cX9_look 29 = .ok (.aload_n 0, 1) := by decide +kernel
theorem dX9_look_30 : decode cX9_look 30 = .ok (.iconst 2, 1) := by decide +kernel
theorem dX9_look_31 : decode cX9_look 31 = .ok (.invokevirtual 214, 3) := by decide +kernel
theorem dX9_look_34 : decode cX9_look 34 = .ok (.lreturn, 1) := by decide +kernel
theorem dX9_look_35 : decode cX9_look 35 = .ok (.iload_n 2, 1) := by decide +kernel
theorem dX9_look_36 : decode cX9_look 36 = .ok (.ifCond .ne 11, 3) := by decide +kernel
theorem dX9_look_39 : decode cX9_look 39 = .ok (.aload_n 0, 1) := by decide +kernel
theorem dX9_look_40 : decode cX9_look 40 = .ok (.getfield 7, 3) := by decide +kernel
theorem dX9_look_43 : decode cX9_look 43 = .ok (.iload_n 1, 1) := by decide +kernel
theorem dX9_look_44 : decode cX9_look 44 = .ok (.iaload, 1) := by decide +kernel
theorem dX9_look_45 : decode cX9_look 45 = .ok (.i2l, 1) := by decide +kernel
theorem dX9_look_46 : decode cX9_look 46 = .ok (.lreturn, 1) := by decide +kernel
theorem dX9_look_47 : decode cX9_look 47 = .ok (.iload_n 2, 1) := by decide +kernel
theorem dX9_look_48 : decode cX9_look 48 = .ok (.iconst 1, 1) := by decide +kernel
theorem dX9_look_49 : decode cX9_look 49 = .ok (.if_icmp .ne 11, 3) := by decide +kernel
theorem dX9_look_52 : decode cX9_look 52 = .ok (.aload_n 0, 1) := by decide +kernel
theorem dX9_look_53 : decode cX9_look 53 = .ok (.getfield 13, 3) := by decide +kernel
theorem dX9_look_56 : decode cX9_look 56 = .ok (.iload_n 1, 1) := by decide +kernel
theorem dX9_look_57 : decode cX9_look 57 = .ok (.iaload, 1) := by decide +kernel
theorem dX9_look_58 : decode cX9_look 58 = .ok (.i2l, 1) := by decide +kernel
theorem dX9_look_59 : decode cX9_look 59 = .ok (.lreturn, 1) := by decide +kernel
theorem dX9_look_60 : decode cX9_look 60 = .ok (.iload_n 2, 1) := by decide +kernel
theorem dX9_look_61 : decode cX9_look 61 = .ok (.iconst 2, 1) := by decide +kernel
theorem dX9_look_62 : decode cX9_look 62 = .ok (.if_icmp .ne 18, 3) := by decide +kernel
theorem dX9_look_65 : decode cX9_look 65 = .ok (.aload_n 0, 1) := by decide +kernel
theorem dX9_look_66 : decode cX9_look 66 = .ok (.getfield 16, 3) := by decide +kernel
theorem dX9_look_69 : decode cX9_look 69 = .ok (.iload_n 1, 1) := by decide +kernel
theorem dX9_look_70 : decode cX9_look 70 = .ok (.baload, 1) := by decide +kernel
theorem dX9_look_71 : decode cX9_look 71 = .ok (.ifCond .eq 7, 3) := by decide +kernel
theorem dX9_look_74 : decode cX9_look 74 = .ok (.lconst 1, 1) := by decide +kernel
theorem dX9_look_75 : decode cX9_look 75 = .ok (.goto 4, 3) := by decide +kernel
theorem dX9_look_78 : decode cX9_look 78 = .ok (.lconst 0, 1) := by decide +kernel
theorem dX9_look_79 : decode cX9_look 79 = .ok (.lreturn, 1) := by decide +kernel
theorem dX9_look_80 : decode cX9_look 80 = .ok (.aload_n 0, 1) := by decide +kernel
theorem dX9_look_81 : decode cX9_look 81 = .ok (.getfield 16, 3) := by decide +kernel
theorem dX9_look_84 : decode cX9_look 84 = .ok (.iload_n 1, 1) := by decide +kernel
theorem dX9_look_85 : decode cX9_look 85 = .ok (.baload, 1) := by decide +kernel
theorem dX9_look_86 : decode cX9_look 86 = .ok (.ifCond .ne 5, 3) := by decide +kernel
theorem dX9_look_89 : decode cX9_look 89 = .ok (.lconst 0, 1) := by decide +kernel
theorem dX9_look_90 : decode cX9_look 90 = .ok (.lreturn, 1) := by decide +kernel
theorem dX9_look_91 : decode cX9_look 91 = .ok (.iload_n 2, 1) := by decide +kernel
theorem dX9_look_92 : decode cX9_look 92 = .ok (.tableswitch 84 3 8 #[40, 48, 55, 62, 69, 76], 40) := by decide +kernel
theorem dX9_look_132 : decode cX9_look 132 = .ok (.aload_n 0, 1) := by decide +kernel
theorem dX9_look_133 : decode cX9_look 133 = .ok (.getfield 48, 3) := by decide +kernel
theorem dX9_look_136 : decode cX9_look 136 = .ok (.iload_n 1, 1) := by decide +kernel
theorem dX9_look_137 : decode cX9_look 137 = .ok (.iaload, 1) := by decide +kernel
theorem dX9_look_138 : decode cX9_look 138 = .ok (.i2l, 1) := by decide +kernel
theorem dX9_look_139 : decode cX9_look 139 = .ok (.lreturn, 1) := by decide +kernel
theorem dX9_look_140 : decode cX9_look 140 = .ok (.aload_n 0, 1) := by decide +kernel
theorem dX9_look_141 : decode cX9_look 141 = .ok (.getfield 44, 3) := by decide +kernel
theorem dX9_look_144 : decode cX9_look 144 = .ok (.iload_n 1, 1) := by decide +kernel
theorem dX9_look_145 : decode cX9_look 145 = .ok (.laload, 1) := by decide +kernel
theorem dX9_look_146 : decode cX9_look 146 = .ok (.lreturn, 1) := by decide +kernel
theorem dX9_look_147 : decode cX9_look 147 = .ok (.aload_n 0, 1) := by decide +kernel
theorem dX9_look_148 : decode cX9_look 148 = .ok (.getfield 51, 3) := by decide +kernel
theorem dX9_look_151 : decode cX9_look 151 = .ok (.iload_n 1, 1) := by decide +kernel
theorem dX9_look_152 : decode cX9_look 152 = .ok (.laload, 1) := by decide +kernel
theorem dX9_look_153 : decode cX9_look 153 = .ok (.lreturn, 1) := by decide +kernel
theorem dX9_look_154 : decode cX9_look 154 = .ok (.aload_n 0, 1) := by decide +kernel
theorem dX9_look_155 : decode cX9_look 155 = .ok (.getfield 66, 3) := by decide +kernel
theorem dX9_look_158 : decode cX9_look 158 = .ok (.iload_n 1, 1) := by decide +kernel
theorem dX9_look_159 : decode cX9_look 159 = .ok (.laload, 1) := by decide +kernel
theorem dX9_look_160 : decode cX9_look 160 = .ok (.lreturn, 1) := by decide +kernel
theorem dX9_look_161 : decode cX9_look 161 = .ok (.aload_n 0, 1) := by decide +kernel
theorem dX9_look_162 : decode cX9_look 162 = .ok (.getfield 69, 3) := by decide +kernel
theorem dX9_look_165 : decode cX9_look 165 = .ok (.iload_n 1, 1) := by decide +kernel
theorem dX9_look_166 : decode cX9_look 166 = .ok (.laload, 1) := by decide +kernel
theorem dX9_look_167 : decode cX9_look 167 = .ok (.lreturn, 1) := by decide +kernel
theorem dX9_look_168 : decode cX9_look 168 = .ok (.aload_n 0, 1) := by decide +kernel
theorem dX9_look_169 : decode cX9_look 169 = .ok (.getfield 81, 3) := by decide +kernel
theorem dX9_look_172 : decode cX9_look 172 = .ok (.iload_n 1, 1) := by decide +kernel
theorem dX9_look_173 : decode cX9_look 173 = .ok (.iaload, 1) := by decide +kernel
theorem dX9_look_174 : decode cX9_look 174 = .ok (.i2l, 1) := by decide +kernel
theorem dX9_look_175 : decode cX9_look 175 = .ok (.lreturn, 1) := by decide +kernel
theorem dX9_look_176 : decode cX9_look 176 = .ok (.lconst 0, 1) := by decide +kernel
theorem dX9_look_177 : decode cX9_look 177 = .ok (.lstore_n 3, 1) := by decide +kernel
theorem dX9_look_178 : decode cX9_look 178 = .ok (.bipush 20, 2) := by decide +kernel
theorem dX9_look_180 : decode cX9_look 180 = .ok (.iload_n 1, 1) := by decide +kernel
theorem dX9_look_181 : decode cX9_look 181 = .ok (.imul, 1) := by decide +kernel
theorem dX9_look_182 : decode cX9_look 182 = .ok (.istore 5, 2) := by decide +kernel
theorem dX9_look_184 : decode cX9_look 184 = .ok (.iload 5, 2) := by decide +kernel
theorem dX9_look_186 : decode cX9_look 186 = .ok (.bipush 20, 2) := by decide +kernel
theorem dX9_look_188 : decode cX9_look 188 = .ok (.iload_n 1, 1) := by decide +kernel
theorem dX9_look_189 : decode cX9_look 189 = .ok (.imul, 1) := by decide +kernel
theorem dX9_look_190 : decode cX9_look 190 = .ok (.aload_n 0, 1) := by decide +kernel
theorem dX9_look_191 : decode cX9_look 191 = .ok (.getfield 7, 3) := by decide +kernel
theorem dX9_look_194 : decode cX9_look 194 = .ok (.iload_n 1, 1) := by decide +kernel
theorem dX9_look_195 : decode cX9_look 195 = .ok (.iaload, 1) := by decide +kernel
theorem dX9_look_196 : decode cX9_look 196 = .ok (.iadd, 1) := by decide +kernel
theorem dX9_look_197 : decode cX9_look 197 = .ok (.if_icmp .ge 19, 3) := by decide +kernel
theorem dX9_look_200 : decode cX9_look 200 = .ok (.lload_n 3, 1) := by decide +kernel
theorem dX9_look_201 : decode cX9_look 201 = .ok (.aload_n 0, 1) := by decide +kernel
theorem dX9_look_202 : decode cX9_look 202 = .ok (.getfield 72, 3) := by decide +kernel
theorem dX9_look_205 : decode cX9_look 205 = .ok (.iload 5, 2) := by decide +kernel
theorem dX9_look_207 : decode cX9_look 207 = .ok (.laload, 1) := by decide +kernel
theorem dX9_look_208 : decode cX9_look 208 = .ok (.ladd, 1) := by decide +kernel
theorem dX9_look_209 : decode cX9_look 209 = .ok (.lstore_n 3, 1) := by decide +kernel
theorem dX9_look_210 : decode cX9_look 210 = .ok (.iinc 5 1, 3) := by decide +kernel
theorem dX9_look_213 : decode cX9_look 213 = .ok (.goto (-29), 3) := by decide +kernel
theorem dX9_look_216 : decode cX9_look 216 = .ok (.lload_n 3, 1) := by decide +kernel
theorem dX9_look_217 : decode cX9_look 217 = .ok (.lreturn, 1) := by decide +kernel
def L_X9_look_184 (b1 : Int32) (k : Int64 → Hp → Option (Int64 × Hp)) : Nat → Int64 → Int32 → Hp → Option (Int64 × Hp)
  | 0, _, _, _ => none
  | n + 1, x3, x5, H => gd b1 8 (if ((20 * b1) + (gI H 0 1 (Int32.toNatClampNeg b1))) ≤ x5 then k x3 H else gd x5 160 (vl ((x3 + (gJ H 0 21 (Int32.toNatClampNeg x5)))) (fun (v21 : Int64) => vl (x5 + (1 : Int32)) (fun (v22 : Int32) => L_X9_look_184 b1 k n v21 v22 H))))
set_option maxRecDepth 100000 in
set_option maxHeartbeats 4000000 in
theorem sL_X9_look_184 {p : Program} {l : Launch} {e : Env} {s : State} {m : MethodId} {args : Array Value} {below : List Frame} {meth : Method} {c : Code} {A : Nat → Prop} {D : va_G} {K4 : kQ} {ad : Nat → Nat → Nat} {nr : Nat} {b1 : Int32} {k : Int64 → Hp → Option (Int64 × Hp)} {res : Int64 × Hp} (hC : Cx p s m args c A s.heap D K4 6 RX9 cX9_look) (hret : meth.sig.returnType = (some .long) ∧ meth.locks = false) (hk : ∀ (z3 : Int64) (H : Hp), k z3 H = some res → V p l e ({ frames := 1, cells := 0, slots := 0, locals := 21 }) s m args below meth c A s.heap (QJ below args s A D K4 ad nr res) D K4 ad nr 6 216 [(3, .long z3)] [] H) : ∀ (n : Nat) (x3 : Int64) (x5 : Int32) (H : Hp), L_X9_look_184 b1 k n x3 x5 H = some res → V p l e ({ frames := 1, cells := 0, slots := 0, locals := 21 }) s m args below meth c A s.heap (QJ below args s A D K4 ad nr res) D K4 ad nr 6 184 [(0, .ref (ad 0 0)), (1, .int b1), (3, .long x3), (5, .int x5)] [] H := by
  intro n
  induction n with
  | zero => intro x3 x5 H h; exact nomatch (show (none : Option (Int64 × Hp)) = some res from h)
  | succ n ih =>
    intro x3 x5 H h
    rw [L_X9_look_184] at h
    refine V_iload hC 3 dX9_look_184 rfl ?_
    refine V_bipush (v := 20) hC dX9_look_186 (by decide) ?_
    refine V_iload_n hC 1 dX9_look_188 rfl ?_
    refine V_imul hC dX9_look_189 ?_
    refine V_aload_n hC 0 dX9_look_190 rfl ?_
    refine V_getR (g := 0) (k := 0) (g' := 0) (k' := 1) hC 9 1 fl_X9_7 rfl rfl rfl rfl dX9_look_191 ?_
    refine V_iload_n hC 1 dX9_look_194 rfl ?_
    obtain ⟨hi, h⟩ := gd_some h
    refine V_iald (g := 0) (k := 1) hC rfl rfl hi dX9_look_195 ?_
    refine V_iadd hC dX9_look_196 ?_
    refine V_icmp_ge (tgt := 216) hC dX9_look_197 (by decide) (fun c20 => ?_) (fun c20 => ?_)
    · have h := it_pos c20 h
      refine V_lv (lv' := [(3, .long x3)]) [2] rfl ?_
      exact hk x3 H h
    · have h := it_neg c20 h
      refine V_lload_n hC 2 dX9_look_200 rfl ?_
      refine V_aload_n hC 0 dX9_look_201 rfl ?_
      refine V_getR (g := 0) (k := 0) (g' := 0) (k' := 21) hC 9 21 fl_X9_72 rfl rfl rfl rfl dX9_look_202 ?_
      refine V_iload hC 3 dX9_look_205 rfl ?_
      obtain ⟨hi, h⟩ := gd_some h
      refine V_lald (g := 0) (k := 21) hC rfl rfl hi dX9_look_207 ?_
      refine V_ladd hC dX9_look_208 ?_
      refine V_vlJ h (fun v21 h => ?_)
      refine V_lstore_n (lv' := [(3, .long v21), (0, .ref (ad 0 0)), (1, .int b1), (5, .int x5)]) hC dX9_look_209 (Nat.le_of_ble_eq_true rfl) rfl ?_
      refine V_vi h (fun v22 hvv22 h => ?_)
      refine V_iinc (v := v22) (lv' := [(5, .int v22), (3, .long v21), (0, .ref (ad 0 0)), (1, .int b1)]) hC 3 dX9_look_210 rfl hvv22.symm (Nat.le_of_ble_eq_true rfl) rfl ?_
      refine V_goto (tgt := 184) hC dX9_look_213 (by decide) ?_
      refine V_lv (lv' := [(0, .ref (ad 0 0)), (1, .int b1), (3, .long v21), (5, .int v22)]) [2, 3, 1, 0] rfl ?_
      exact ih v21 v22 H h
def f_X9_look (a1 : Int32) (a2 : Int32) (H : Hp) : Option (Int64 × Hp) := hl (sI H 0 0 34 0) (fun (H1 : Hp) => bnd (f_X9_isRoutine a1 H1) (fun w3 H2 => if w3 = 0 then bnd (f_X9_fails 1 H2) (fun w29 H28 => some (w29, H28)) else if a2 < 0 then bnd (f_X9_fails 2 H2) (fun w7 H6 => some (w7, H6)) else if a2 ≤ 9 then if a2 = 0 then gd a1 8 (some ((Int32.toInt64 (gI H2 0 1 (Int32.toNatClampNeg a1))), H2)) else if a2 = 1 then gd a1 8 (some ((Int32.toInt64 (gI H2 0 2 (Int32.toNatClampNeg a1))), H2)) else if a2 = 2 then gd a1 8 (if (gI H2 0 3 (Int32.toNatClampNeg a1)) = 0 then some (0, H2) else some (1, H2)) else gd a1 8 (if (gI H2 0 3 (Int32.toNatClampNeg a1)) = 0 then some (0, H2) else if a2 = 3 then gd a1 8 (some ((Int32.toInt64 (gI H2 0 13 (Int32.toNatClampNeg a1))), H2)) else (if a2 = 4 then gd a1 8 (some ((gJ H2 0 12 (Int32.toNatClampNeg a1)), H2)) else (if a2 = 5 then gd a1 8 (some ((gJ H2 0 14 (Int32.toNatClampNeg a1)), H2)) else (if a2 = 6 then gd a1 8 (some ((gJ H2 0 19 (Int32.toNatClampNeg a1)), H2)) else (if a2 = 7 then gd a1 8 (some ((gJ H2 0 20 (Int32.toNatClampNeg a1)), H2)) else (if a2 = 8 then gd a1 8 (some ((Int32.toInt64 (gI H2 0 24 (Int32.toNatClampNeg a1))), H2)) else (vl ((20 * a1)) (fun (v19 : Int32) => L_X9_look_184 a1 (fun (z23 : Int64) (H24 : Hp) => some (z23, H24)) FU 0 v19 H2)))))))) else bnd (f_X9_fails 2 H2) (fun w27 H26 => some (w27, H26))))
set_option maxRecDepth 100000 in
set_option maxHeartbeats 4000000 in
theorem s_X9_look {p : Program} {l : Launch} {e : Env} {s : State} {m : MethodId} {args : Array Value} {below : List Frame} {meth : Method} {c : Code} {A : Nat → Prop} {D : va_G} {K4 : kQ} {ad : Nat → Nat → Nat} {nr : Nat} {a1 : Int32} {a2 : Int32} {H : Hp} {res : Int64 × Hp} (hC : Cx p s m args c A s.heap D K4 6 RX9 cX9_look) (hret : meth.sig.returnType = (some .long) ∧ meth.locks = false) (h : f_X9_look a1 a2 H = some res) : V p l e ({ frames := 1, cells := 0, slots := 0, locals := 21 }) s m args below meth c A s.heap (QJ below args s A D K4 ad nr res) D K4 ad nr 6 0 [(0, .ref (ad 0 0)), (1, .int a1), (2, .int a2)] [] H := by
  unfold f_X9_look at h
  refine V_aload_n hC 0 dX9_look_0 rfl ?_
  refine V_iconst (v := 0) hC dX9_look_1 (by decide) ?_
  refine V_putI (g := 0) (k := 0) hC 9 34 .int fw_X9_153 rfl rfl rfl rfl rfl dX9_look_2 ?_
  refine V_hl h (fun H1 h => ?_)
  refine V_aload_n hC 0 dX9_look_5 rfl ?_
  refine V_iload_n hC 1 dX9_look_6 rfl ?_
  obtain ⟨w3, H2, hc, h⟩ := bnd_some h
  refine V_calli (g := 0) (k := 0) (As := [.int a1]) (st := []) hC (c_X9_isRoutine l hc) rfl ml_X9_160 ⟨Nat.le_of_ble_eq_true rfl, Nat.le_of_ble_eq_true rfl⟩ rfl rfl rfl (Nat.le_of_ble_eq_true rfl) dX9_look_7 ?_
  refine V_if_ne (tgt := 19) hC dX9_look_10 (by decide) (fun c4 => ?_) (fun c4 => ?_)
  · have h := it_neg c4 h
    refine V_iload_n hC 2 dX9_look_19 rfl ?_
    refine V_if_lt (tgt := 29) hC dX9_look_20 (by decide) (fun c5 => ?_) (fun c5 => ?_)
    · have h := it_pos c5 h
      refine V_aload_n hC 0 dX9_look_29 rfl ?_
      refine V_iconst (v := 2) hC dX9_look_30 (by decide) ?_
      obtain ⟨w7, H6, hc, h⟩ := bnd_some h
      refine V_calll (g := 0) (k := 0) (As := [.int 2]) (st := []) hC (c_X9_fails l hc) rfl ml_X9_214 ⟨Nat.le_of_ble_eq_true rfl, Nat.le_of_ble_eq_true rfl⟩ rfl rfl rfl (Nat.le_of_ble_eq_true rfl) dX9_look_31 ?_
      exact V_lret hC hret dX9_look_34 h
    · have h := it_neg c5 h
      refine V_iload_n hC 2 dX9_look_23 rfl ?_
      refine V_bipush (v := 9) hC dX9_look_24 (by decide) ?_
      refine V_icmp_le (tgt := 35) hC dX9_look_26 (by decide) (fun c8 => ?_) (fun c8 => ?_)
      · have h := it_pos c8 h
        refine V_iload_n hC 2 dX9_look_35 rfl ?_
        refine V_if_ne (tgt := 47) hC dX9_look_36 (by decide) (fun c9 => ?_) (fun c9 => ?_)
        · have h := it_neg c9 h
          refine V_iload_n hC 2 dX9_look_47 rfl ?_
          refine V_iconst (v := 1) hC dX9_look_48 (by decide) ?_
          refine V_icmp_ne (tgt := 60) hC dX9_look_49 (by decide) (fun c10 => ?_) (fun c10 => ?_)
          · have h := it_neg c10 h
            refine V_iload_n hC 2 dX9_look_60 rfl ?_
            refine V_iconst (v := 2) hC dX9_look_61 (by decide) ?_
            refine V_icmp_ne (tgt := 80) hC dX9_look_62 (by decide) (fun c11 => ?_) (fun c11 => ?_)
            · have h := it_neg c11 h
              refine V_aload_n hC 0 dX9_look_80 rfl ?_
              refine V_getR (g := 0) (k := 0) (g' := 0) (k' := 3) hC 9 3 fl_X9_16 rfl rfl rfl rfl dX9_look_81 ?_
              refine V_iload_n hC 1 dX9_look_84 rfl ?_
              obtain ⟨hi, h⟩ := gd_some h
              refine V_zald (g := 0) (k := 3) hC rfl rfl hi dX9_look_85 ?_
              refine V_if_ne (tgt := 91) hC dX9_look_86 (by decide) (fun c12 => ?_) (fun c12 => ?_)
              · have h := it_neg c12 h
                refine V_iload_n hC 2 dX9_look_91 rfl ?_
                by_cases c13 : a2 = 3
                · have h := it_pos c13 h
                  refine V_tabE c13 ?_
                  refine V_tabIn (tgt := 132) hC dX9_look_92 (by decide) (by decide) rfl (by decide) ?_
                  refine V_aload_n hC 0 dX9_look_132 rfl ?_
                  refine V_getR (g := 0) (k := 0) (g' := 0) (k' := 13) hC 9 13 fl_X9_48 rfl rfl rfl rfl dX9_look_133 ?_
                  refine V_iload_n hC 1 dX9_look_136 rfl ?_
                  obtain ⟨hi, h⟩ := gd_some h
                  refine V_iald (g := 0) (k := 13) hC rfl rfl hi dX9_look_137 ?_
                  refine V_i2l hC dX9_look_138 ?_
                  exact V_lret hC hret dX9_look_139 h
                · have h := it_neg c13 h
                  by_cases c14 : a2 = 4
                  · have h := it_pos c14 h
                    refine V_tabE c14 ?_
                    refine V_tabIn (tgt := 140) hC dX9_look_92 (by decide) (by decide) rfl (by decide) ?_
                    refine V_aload_n hC 0 dX9_look_140 rfl ?_
                    refine V_getR (g := 0) (k := 0) (g' := 0) (k' := 12) hC 9 12 fl_X9_44 rfl rfl rfl rfl dX9_look_141 ?_
                    refine V_iload_n hC 1 dX9_look_144 rfl ?_
                    obtain ⟨hi, h⟩ := gd_some h
                    refine V_lald (g := 0) (k := 12) hC rfl rfl hi dX9_look_145 ?_
                    exact V_lret hC hret dX9_look_146 h
                  · have h := it_neg c14 h
                    by_cases c15 : a2 = 5
                    · have h := it_pos c15 h
                      refine V_tabE c15 ?_
                      refine V_tabIn (tgt := 147) hC dX9_look_92 (by decide) (by decide) rfl (by decide) ?_
                      refine V_aload_n hC 0 dX9_look_147 rfl ?_
                      refine V_getR (g := 0) (k := 0) (g' := 0) (k' := 14) hC 9 14 fl_X9_51 rfl rfl rfl rfl dX9_look_148 ?_
                      refine V_iload_n hC 1 dX9_look_151 rfl ?_
                      obtain ⟨hi, h⟩ := gd_some h
                      refine V_lald (g := 0) (k := 14) hC rfl rfl hi dX9_look_152 ?_
                      exact V_lret hC hret dX9_look_153 h
                    · have h := it_neg c15 h
                      by_cases c16 : a2 = 6
                      · have h := it_pos c16 h
                        refine V_tabE c16 ?_
                        refine V_tabIn (tgt := 154) hC dX9_look_92 (by decide) (by decide) rfl (by decide) ?_
                        refine V_aload_n hC 0 dX9_look_154 rfl ?_
                        refine V_getR (g := 0) (k := 0) (g' := 0) (k' := 19) hC 9 19 fl_X9_66 rfl rfl rfl rfl dX9_look_155 ?_
                        refine V_iload_n hC 1 dX9_look_158 rfl ?_
                        obtain ⟨hi, h⟩ := gd_some h
                        refine V_lald (g := 0) (k := 19) hC rfl rfl hi dX9_look_159 ?_
                        exact V_lret hC hret dX9_look_160 h
                      · have h := it_neg c16 h
                        by_cases c17 : a2 = 7
                        · have h := it_pos c17 h
                          refine V_tabE c17 ?_
                          refine V_tabIn (tgt := 161) hC dX9_look_92 (by decide) (by decide) rfl (by decide) ?_
                          refine V_aload_n hC 0 dX9_look_161 rfl ?_
                          refine V_getR (g := 0) (k := 0) (g' := 0) (k' := 20) hC 9 20 fl_X9_69 rfl rfl rfl rfl dX9_look_162 ?_
                          refine V_iload_n hC 1 dX9_look_165 rfl ?_
                          obtain ⟨hi, h⟩ := gd_some h
                          refine V_lald (g := 0) (k := 20) hC rfl rfl hi dX9_look_166 ?_
                          exact V_lret hC hret dX9_look_167 h
                        · have h := it_neg c17 h
                          by_cases c18 : a2 = 8
                          · have h := it_pos c18 h
                            refine V_tabE c18 ?_
                            refine V_tabIn (tgt := 168) hC dX9_look_92 (by decide) (by decide) rfl (by decide) ?_
                            refine V_aload_n hC 0 dX9_look_168 rfl ?_
                            refine V_getR (g := 0) (k := 0) (g' := 0) (k' := 24) hC 9 24 fl_X9_81 rfl rfl rfl rfl dX9_look_169 ?_
                            refine V_iload_n hC 1 dX9_look_172 rfl ?_
                            obtain ⟨hi, h⟩ := gd_some h
                            refine V_iald (g := 0) (k := 24) hC rfl rfl hi dX9_look_173 ?_
                            refine V_i2l hC dX9_look_174 ?_
                            exact V_lret hC hret dX9_look_175 h
                          · have h := it_neg c18 h
                            have tc13 : Int32.toInt a2 ≠ (3 : Int) := i32ne c13
                            have tc14 : Int32.toInt a2 ≠ (4 : Int) := i32ne c14
                            have tc15 : Int32.toInt a2 ≠ (5 : Int) := i32ne c15
                            have tc16 : Int32.toInt a2 ≠ (6 : Int) := i32ne c16
                            have tc17 : Int32.toInt a2 ≠ (7 : Int) := i32ne c17
                            have tc18 : Int32.toInt a2 ≠ (8 : Int) := i32ne c18
                            refine V_tabOut (tgt := 176) hC dX9_look_92 (by omega) (by decide) ?_
                            refine V_lconst (v := 0) hC dX9_look_176 (by decide) ?_
                            refine V_lstore_n (lv' := [(3, .long 0), (0, .ref (ad 0 0)), (1, .int a1), (2, .int a2)]) hC dX9_look_177 (Nat.le_of_ble_eq_true rfl) rfl ?_
                            refine V_bipush (v := 20) hC dX9_look_178 (by decide) ?_
                            refine V_iload_n hC 2 dX9_look_180 rfl ?_
                            refine V_imul hC dX9_look_181 ?_
                            refine V_vlI h (fun v19 h => ?_)
                            refine V_istore (lv' := [(5, .int v19), (3, .long 0), (0, .ref (ad 0 0)), (1, .int a1), (2, .int a2)]) hC dX9_look_182 (Nat.le_of_ble_eq_true rfl) rfl ?_
                            refine V_lv (lv' := [(0, .ref (ad 0 0)), (1, .int a1), (3, .long 0), (5, .int v19)]) [2, 3, 1, 0] rfl ?_
                            refine sL_X9_look_184 hC hret (fun z23 H24 h => ?_) _ 0 v19 H2 h
                            refine V_lload_n hC 0 dX9_look_216 rfl ?_
                            exact V_lret hC hret dX9_look_217 h
              · have h := it_pos c12 h
                refine V_lconst (v := 0) hC dX9_look_89 (by decide) ?_
                exact V_lret hC hret dX9_look_90 h
            · have h := it_pos c11 h
              refine V_aload_n hC 0 dX9_look_65 rfl ?_
              refine V_getR (g := 0) (k := 0) (g' := 0) (k' := 3) hC 9 3 fl_X9_16 rfl rfl rfl rfl dX9_look_66 ?_
              refine V_iload_n hC 1 dX9_look_69 rfl ?_
              obtain ⟨hi, h⟩ := gd_some h
              refine V_zald (g := 0) (k := 3) hC rfl rfl hi dX9_look_70 ?_
              refine V_if_eq (tgt := 78) hC dX9_look_71 (by decide) (fun c25 => ?_) (fun c25 => ?_)
              · have h := it_pos c25 h
                refine V_lconst (v := 0) hC dX9_look_78 (by decide) ?_
                exact V_lret hC hret dX9_look_79 h
              · have h := it_neg c25 h
                refine V_lconst (v := 1) hC dX9_look_74 (by decide) ?_
                refine V_goto (tgt := 79) hC dX9_look_75 (by decide) ?_
                exact V_lret hC hret dX9_look_79 h
          · have h := it_pos c10 h
            refine V_aload_n hC 0 dX9_look_52 rfl ?_
            refine V_getR (g := 0) (k := 0) (g' := 0) (k' := 2) hC 9 2 fl_X9_13 rfl rfl rfl rfl dX9_look_53 ?_
            refine V_iload_n hC 1 dX9_look_56 rfl ?_
            obtain ⟨hi, h⟩ := gd_some h
            refine V_iald (g := 0) (k := 2) hC rfl rfl hi dX9_look_57 ?_
            refine V_i2l hC dX9_look_58 ?_
            exact V_lret hC hret dX9_look_59 h
        · have h := it_pos c9 h
          refine V_aload_n hC 0 dX9_look_39 rfl ?_
          refine V_getR (g := 0) (k := 0) (g' := 0) (k' := 1) hC 9 1 fl_X9_7 rfl rfl rfl rfl dX9_look_40 ?_
          refine V_iload_n hC 1 dX9_look_43 rfl ?_
          obtain ⟨hi, h⟩ := gd_some h
          refine V_iald (g := 0) (k := 1) hC rfl rfl hi dX9_look_44 ?_
          refine V_i2l hC dX9_look_45 ?_
          exact V_lret hC hret dX9_look_46 h
      · have h := it_neg c8 h
        refine V_aload_n hC 0 dX9_look_29 rfl ?_
        refine V_iconst (v := 2) hC dX9_look_30 (by decide) ?_
        obtain ⟨w27, H26, hc, h⟩ := bnd_some h
        refine V_calll (g := 0) (k := 0) (As := [.int 2]) (st := []) hC (c_X9_fails l hc) rfl ml_X9_214 ⟨Nat.le_of_ble_eq_true rfl, Nat.le_of_ble_eq_true rfl⟩ rfl rfl rfl (Nat.le_of_ble_eq_true rfl) dX9_look_31 ?_
        exact V_lret hC hret dX9_look_34 h
  · have h := it_pos c4 h
    refine V_aload_n hC 0 dX9_look_13 rfl ?_
    refine V_iconst (v := 1) hC dX9_look_14 (by decide) ?_
    obtain ⟨w29, H28, hc, h⟩ := bnd_some h
    refine V_calll (g := 0) (k := 0) (As := [.int 1]) (st := []) hC (c_X9_fails l hc) rfl ml_X9_214 ⟨Nat.le_of_ble_eq_true rfl, Nat.le_of_ble_eq_true rfl⟩ rfl rfl rfl (Nat.le_of_ble_eq_true rfl) dX9_look_15 ?_
    exact V_lret hC hret dX9_look_18 h
theorem c_X9_look (l : Launch) {nr : Nat} {a1 : Int32} {a2 : Int32} {H : Hp} {x : Int64} {H' : Hp} (h : f_X9_look a1 a2 H = some (x, H')) : CJ l nr yX9_look cX9_look 6 (some .long) 1 21 (fun ad => [.ref (ad 0 0), .int a1, .int a2]) H x H' := by
  intro D K4 ad sz
  refine Met.ofV (by decide) (Nat.le_of_ble_eq_true rfl) ?_
  intro p e s m args below meth c hC hret hsz
  subst hsz
  exact s_X9_look hC hret h
theorem dX9_ofEdge_0 : decode cX9_ofEdge 0 = .ok (.aload_n 0, 1) := by decide +kernel
theorem dX9_ofEdge_1 : decode cX9_ofEdge 1 = .ok (.iconst 0, 1) := by decide +kernel
theorem dX9_ofEdge_2 : decode cX9_ofEdge 2 = .ok (.putfield 153, 3) := by decide +kernel
theorem dX9_ofEdge_5 : decode cX9_ofEdge 5 = .ok (.aload_n 0, 1) := by decide +kernel
theorem dX9_ofEdge_6 : decode cX9_ofEdge 6 = .ok (.iload_n 1, 1) := by decide +kernel
theorem dX9_ofEdge_7 : decode cX9_ofEdge 7 = .ok (.iload_n 2, 1) := by decide +kernel
theorem dX9_ofEdge_8 : decode cX9_ofEdge 8 = .ok (.invokevirtual 176, 3) := by decide +kernel
theorem dX9_ofEdge_11 : decode cX9_ofEdge 11 = .ok (.ifCond .ne 9, 3) := by decide +kernel
theorem dX9_ofEdge_14 : decode cX9_ofEdge 14 = .ok (.aload_n 0, 1) := by decide +kernel
theorem dX9_ofEdge_15 : decode cX9_ofEdge 15 = .ok (.iconst 1, 1) := by decide +kernel
theorem dX9_ofEdge_16 : decode cX9_ofEdge 16 = .ok (.invokevirtual 214, 3) := by decide +kernel
theorem dX9_ofEdge_19 : decode cX9_ofEdge 19 = .ok (.lreturn, 1) := by decide +kernel
theorem dX9_ofEdge_20 : decode cX9_ofEdge 20 = .ok (.iload_n 3, 1) := by decide +kernel
theorem dX9_ofEdge_21 : decode cX9_ofEdge 21 = .ok (.ifCond .lt 9, 3) := by decide +kernel
theorem dX9_ofEdge_24 : decode cX9_ofEdge 24 = .ok (.iload_n 3, 1) := by decide +kernel
theorem dX9_ofEdge_25 : decode cX9_ofEdge 25 = .ok (.bipush 9, 2) := by decide +kernel
theorem dX9_ofEdge_27 : decode cX9_ofEdge 27 = .ok (.if_icmp .le 9, 3) := by decide +kernel
theorem dX9_ofEdge_30 : decode cX9_ofEdge 30 = .ok (.aload_n 0, 1) := by decide +kernel
theorem dX9_ofEdge_31 : decode cX9_ofEdge 31 = .ok (.iconst 2, 1) := by decide +kernel
theorem dX9_ofEdge_32 : decode cX9_ofEdge 32 = .ok (.invokevirtual 214, 3) := by decide +kernel
theorem dX9_ofEdge_35 : decode cX9_ofEdge 35 = .ok (.lreturn, 1) := by decide +kernel
theorem dX9_ofEdge_36 : decode cX9_ofEdge 36 = .ok (.bipush 40, 2) := by decide +kernel
theorem dX9_ofEdge_38 : decode cX9_ofEdge 38 = .ok (.iload_n 1, 1) := by decide +kernel
theorem dX9_ofEdge_39 : decode cX9_ofEdge 39 = .ok (.imul, 1) := by decide +kernel
theorem dX9_ofEdge_40 : decode cX9_ofEdge 40 = .ok (.iload_n 2, 1) := by decide +kernel
theorem dX9_ofEdge_41 : decode cX9_ofEdge 41 = .ok (.iadd, 1) := by decide +kernel
theorem dX9_ofEdge_42 : decode cX9_ofEdge 42 = .ok (.istore 4, 2) := by decide +kernel
theorem dX9_ofEdge_44 : decode cX9_ofEdge 44 = .ok (.iload_n 3, 1) := by decide +kernel
theorem dX9_ofEdge_45 : decode cX9_ofEdge 45 = .ok (.ifCond .ne 12, 3) := by decide +kernel
theorem dX9_ofEdge_48 : decode cX9_ofEdge 48 = .ok (.aload_n 0, 1) := by decide +kernel
theorem dX9_ofEdge_49 : decode cX9_ofEdge 49 = .ok (.getfield 26, 3) := by decide +kernel
theorem dX9_ofEdge_52 : decode cX9_ofEdge 52 = .ok (.iload 4, 2) := by decide +kernel
theorem dX9_ofEdge_54 : decode cX9_ofEdge 54 = .ok (.iaload, 1) := by decide +kernel
theorem dX9_ofEdge_55 : decode cX9_ofEdge 55 = .ok (.i2l, 1) := by decide +kernel
theorem dX9_ofEdge_56 : decode cX9_ofEdge 56 = .ok (.lreturn, 1) := by decide +kernel
theorem dX9_ofEdge_57 : decode cX9_ofEdge 57 = .ok (.iload_n 3, 1) := by decide +kernel
theorem dX9_ofEdge_58 : decode cX9_ofEdge 58 = .ok (.iconst 1, 1) := by decide +kernel
theorem dX9_ofEdge_59 : decode cX9_ofEdge 59 = .ok (.if_icmp .ne 12, 3) := by decide +kernel
theorem dX9_ofEdge_62 : decode cX9_ofEdge 62 = .ok (.aload_n 0, 1) := by decide +kernel
theorem dX9_ofEdge_63 : decode cX9_ofEdge 63 = .ok (.getfield 29, 3) := by decide +kernel
theorem dX9_ofEdge_66 : decode cX9_ofEdge 66 = .ok (.iload 4, 2) := by decide +kernel
theorem dX9_ofEdge_68 : decode cX9_ofEdge 68 = .ok (.iaload, 1) := by decide +kernel
theorem dX9_ofEdge_69 : decode cX9_ofEdge 69 = .ok (.i2l, 1) := by decide +kernel
theorem dX9_ofEdge_70 : decode cX9_ofEdge 70 = .ok (.lreturn, 1) := by decide +kernel
theorem dX9_ofEdge_71 : decode cX9_ofEdge 71 = .ok (.iload_n 3, 1) := by decide +kernel
theorem dX9_ofEdge_72 : decode cX9_ofEdge 72 = .ok (.iconst 2, 1) := by decide +kernel
theorem dX9_ofEdge_73 : decode cX9_ofEdge 73 = .ok (.if_icmp .ne 12, 3) := by decide +kernel
theorem dX9_ofEdge_76 : decode cX9_ofEdge 76 = .ok (.aload_n 0, 1) := by decide +kernel
theorem dX9_ofEdge_77 : decode cX9_ofEdge 77 = .ok (.getfield 32, 3) := by decide +kernel
theorem dX9_ofEdge_80 : decode cX9_ofEdge 80 = .ok (.iload 4, 2) := by decide +kernel
theorem dX9_ofEdge_82 : decode cX9_ofEdge 82 = .ok (.iaload, 1) := by decide +kernel
theorem dX9_ofEdge_83 : decode cX9_ofEdge 83 = .ok (.i2l, 1) := by decide +kernel
theorem dX9_ofEdge_84 : decode cX9_ofEdge 84 = .ok (.lreturn, 1) := by decide +kernel
theorem dX9_ofEdge_85 : decode cX9_ofEdge 85 = .ok (.iload_n 3, 1) := by decide +kernel
theorem dX9_ofEdge_86 : decode cX9_ofEdge 86 = .ok (.iconst 3, 1) := by decide +kernel
theorem dX9_ofEdge_87 : decode cX9_ofEdge 87 = .ok (.if_icmp .ne 19, 3) := by decide +kernel
theorem dX9_ofEdge_90 : decode cX9_ofEdge 90 = .ok (.aload_n 0, 1) := by decide +kernel
theorem dX9_ofEdge_91 : decode cX9_ofEdge 91 = .ok (.getfield 35, 3) := by decide +kernel
theorem dX9_ofEdge_94 : decode cX9_ofEdge 94 = .ok (.iload 4, 2) := by decide +kernel
theorem dX9_ofEdge_96 : decode cX9_ofEdge 96 = .ok (.baload, 1) := by decide +kernel
theorem dX9_ofEdge_97 : decode cX9_ofEdge 97 = .ok (.ifCond .eq 7, 3) := by decide +kernel
theorem dX9_ofEdge_100 : decode cX9_ofEdge 100 = .ok (.lconst 1, 1) := by decide +kernel
theorem dX9_ofEdge_101 : decode cX9_ofEdge 101 = .ok (.goto 4, 3) := by decide +kernel
theorem dX9_ofEdge_104 : decode cX9_ofEdge 104 = .ok (.lconst 0, 1) := by decide +kernel
theorem dX9_ofEdge_105 : decode cX9_ofEdge 105 = .ok (.lreturn, 1) := by decide +kernel
theorem dX9_ofEdge_106 : decode cX9_ofEdge 106 = .ok (.aload_n 0, 1) := by decide +kernel
theorem dX9_ofEdge_107 : decode cX9_ofEdge 107 = .ok (.getfield 16, 3) := by decide +kernel
theorem dX9_ofEdge_110 : decode cX9_ofEdge 110 = .ok (.iload_n 1, 1) := by decide +kernel
theorem dX9_ofEdge_111 : decode cX9_ofEdge 111 = .ok (.baload, 1) := by decide +kernel
theorem dX9_ofEdge_112 : decode cX9_ofEdge 112 = .ok (.ifCond .ne 16, 3) := by decide +kernel
theorem dX9_ofEdge_115 : decode cX9_ofEdge 115 = .ok (.iload_n 3, 1) := by decide +kernel
theorem dX9_ofEdge_116 : decode cX9_ofEdge 116 = .ok (.iconst 5, 1) := by decide +kernel
theorem dX9_ofEdge_117 : decode cX9_ofEdge 117 = .ok (.if_icmp .ne 9, 3) := by decide +kernel
theorem dX9_ofEdge_120 : decode cX9_ofEdge 120 = .ok (.ldc2_w 189, 3) := by decide +kernel
theorem dX9_ofEdge_123 : decode cX9_ofEdge 123 = .ok (.goto 4, 3) := by decide +kernel
theorem dX9_ofEdge_126 : decode cX9_ofEdge 126 = .ok (.lconst 0, 1) := by decide +kernel
theorem dX9_ofEdge_127 : decode cX9_ofEdge 127 = .ok (.lreturn, 1) := by decide +kernel
theorem dX9_ofEdge_128 : decode cX9_ofEdge 128 = .ok (.iload_n 3, 1) := by decide +kernel
theorem dX9_ofEdge_129 : decode cX9_ofEdge 129 = .ok (.tableswitch 141 4 8 #[35, 51, 117, 125, 133], 35) := by decide +kernel
theorem dX9_ofEdge_164 : decode cX9_ofEdge 164 = .ok (.aload_n 0, 1) := by decide +kernel
theorem dX9_ofEdge_165 : decode cX9_ofEdge 165 = .ok (.getfield 41, 3) := by decide +kernel
theorem dX9_ofEdge_168 : decode cX9_ofEdge 168 = .ok (.iload 4, 2) := by decide +kernel
theorem dX9_ofEdge_170 : decode cX9_ofEdge 170 = .ok (.baload, 1) := by decide +kernel
theorem dX9_ofEdge_171 : decode cX9_ofEdge 171 = .ok (.ifCond .eq 7, 3) := by decide +kernel
theorem dX9_ofEdge_174 : decode cX9_ofEdge 174 = .ok (.lconst 1, 1) := by decide +kernel
theorem dX9_ofEdge_175 : decode cX9_ofEdge 175 = .ok (.goto 4, 3) := by decide +kernel
theorem dX9_ofEdge_178 : decode cX9_ofEdge 178 = .ok (.lconst 0, 1) := by decide +kernel
theorem dX9_ofEdge_179 : decode cX9_ofEdge 179 = .ok (.lreturn, 1) := by decide +kernel
theorem dX9_ofEdge_180 : decode cX9_ofEdge 180 = .ok (.aload_n 0, 1) := by decide +kernel
theorem dX9_ofEdge_181 : decode cX9_ofEdge 181 = .ok (.getfield 41, 3) := by decide +kernel
theorem dX9_ofEdge_184 : decode cX9_ofEdge 184 = .ok (.iload 4, 2) := by decide +kernel
theorem dX9_ofEdge_186 : decode cX9_ofEdge 186 = .ok (.baload, 1) := by decide +kernel
theorem dX9_ofEdge_187 : decode cX9_ofEdge 187 = .ok (.ifCond .ne 7, 3) := by decide +kernel
theorem dX9_ofEdge_190 : decode cX9_ofEdge 190 = .ok (.ldc2_w 189, 3) := by decide +kernel
theorem dX9_ofEdge_193 : decode cX9_ofEdge 193 = .ok (.lreturn, 1) := by decide +kernel
theorem dX9_ofEdge_194 : decode cX9_ofEdge 194 = .ok (.aload_n 0, 1) := by decide +kernel
theorem dX9_ofEdge_195 : decode cX9_ofEdge 195 = .ok (.iload_n 1, 1) := by decide +kernel
theorem dX9_ofEdge_196 : decode cX9_ofEdge 196 = .ok (.aload_n 0, 1) := by decide +kernel
theorem dX9_ofEdge_197 : decode cX9_ofEdge 197 = .ok (.getfield 26, 3) := by decide +kernel
theorem dX9_ofEdge_200 : decode cX9_ofEdge 200 = .ok (.iload 4, 2) := by decide +kernel
theorem dX9_ofEdge_202 : decode cX9_ofEdge 202 = .ok (.iaload, 1) := by decide +kernel
theorem dX9_ofEdge_203 : decode cX9_ofEdge 203 = .ok (.invokevirtual 172, 3) := by decide +kernel
theorem dX9_ofEdge_206 : decode cX9_ofEdge 206 = .ok (.iconst 1, 1) := by decide +kernel
theorem dX9_ofEdge_207 : decode cX9_ofEdge 207 = .ok (.if_icmp .ne 5, 3) := by decide +kernel
theorem dX9_ofEdge_210 : decode cX9_ofEdge 210 = .ok (.lconst 1, 1) := by decide +kernel
theorem dX9_ofEdge_211 : decode cX9_ofEdge 211 = .ok (.lreturn, 1) := by decide +kernel
theorem dX9_ofEdge_212 : decode cX9_ofEdge 212 = .ok (.aload_n 0, 1) := by decide +kernel
theorem dX9_ofEdge_213 : decode cX9_ofEdge 213 = .ok (.iload_n 1, 1) := by decide +kernel
theorem dX9_ofEdge_214 : decode cX9_ofEdge 214 = .ok (.aload_n 0, 1) := by decide +kernel
theorem dX9_ofEdge_215 : decode cX9_ofEdge 215 = .ok (.getfield 29, 3) := by decide +kernel
theorem dX9_ofEdge_218 : decode cX9_ofEdge 218 = .ok (.iload 4, 2) := by decide +kernel
theorem dX9_ofEdge_220 : decode cX9_ofEdge 220 = .ok (.iaload, 1) := by decide +kernel
theorem dX9_ofEdge_221 : decode cX9_ofEdge 221 = .ok (.invokevirtual 218, 3) := by decide +kernel
theorem dX9_ofEdge_224 : decode cX9_ofEdge 224 = .ok (.iconst 1, 1) := by decide +kernel
theorem dX9_ofEdge_225 : decode cX9_ofEdge 225 = .ok (.if_icmp .ne 19, 3) := by decide +kernel
theorem dX9_ofEdge_228 : decode cX9_ofEdge 228 = .ok (.aload_n 0, 1) := by decide +kernel
theorem dX9_ofEdge_229 : decode cX9_ofEdge 229 = .ok (.getfield 29, 3) := by decide +kernel
theorem dX9_ofEdge_232 : decode cX9_ofEdge 232 = .ok (.iload 4, 2) := by decide +kernel
theorem dX9_ofEdge_234 : decode cX9_ofEdge 234 = .ok (.iaload, 1) := by decide +kernel
theorem dX9_ofEdge_235 : decode cX9_ofEdge 235 = .ok (.ifCond .eq 9, 3) := by decide +kernel
theorem dX9_ofEdge_238 : decode cX9_ofEdge 238 = .ok (.ldc2_w 221, 3) := by decide +kernel
theorem dX9_ofEdge_241 : decode cX9_ofEdge 241 = .ok (.goto 4, 3) := by decide +kernel
theorem dX9_ofEdge_244 : decode cX9_ofEdge 244 = .ok (.lconst 0, 1) := by decide +kernel
theorem dX9_ofEdge_245 : decode cX9_ofEdge 245 = .ok (.lreturn, 1) := by decide +kernel
theorem dX9_ofEdge_246 : decode cX9_ofEdge 246 = .ok (.aload_n 0, 1) := by decide +kernel
theorem dX9_ofEdge_247 : decode cX9_ofEdge 247 = .ok (.getfield 75, 3) := by decide +kernel
theorem dX9_ofEdge_250 : decode cX9_ofEdge 250 = .ok (.iload 4, 2) := by decide +kernel
theorem dX9_ofEdge_252 : decode cX9_ofEdge 252 = .ok (.laload, 1) := by decide +kernel
theorem dX9_ofEdge_253 : decode cX9_ofEdge 253 = .ok (.lreturn, 1) := by decide +kernel
theorem dX9_ofEdge_254 : decode cX9_ofEdge 254 = .ok (.aload_n 0, 1) := by decide +kernel
theorem dX9_ofEdge_255 : decode cX9_ofEdge 255 = .ok (.getfield 78, 3) := by decide +kernel
theorem dX9_ofEdge_258 : decode cX9_ofEdge 258 = .ok (.iload 4, 2) := by decide +kernel
theorem dX9_ofEdge_260 : decode cX9_ofEdge 260 = .ok (.laload, 1) := by decide +kernel
theorem dX9_ofEdge_261 : decode cX9_ofEdge 261 = .ok (.lreturn, 1) := by decide +kernel
theorem dX9_ofEdge_262 : decode cX9_ofEdge 262 = .ok (.aload_n 0, 1) := by decide +kernel
theorem dX9_ofEdge_263 : decode cX9_ofEdge 263 = .ok (.getfield 60, 3) := by decide +kernel
theorem dX9_ofEdge_266 : decode cX9_ofEdge 266 = .ok (.iload 4, 2) := by decide +kernel
theorem dX9_ofEdge_268 : decode cX9_ofEdge 268 = .ok (.laload, 1) := by decide +kernel
theorem dX9_ofEdge_269 : decode cX9_ofEdge 269 = .ok (.lreturn, 1) := by decide +kernel
theorem dX9_ofEdge_270 : decode cX9_ofEdge 270 = .ok (.aload_n 0, 1) := by decide +kernel
theorem dX9_ofEdge_271 : decode cX9_ofEdge 271 = .ok (.getfield 35, 3) := by decide +kernel
theorem dX9_ofEdge_274 : decode cX9_ofEdge 274 = .ok (.iload 4, 2) := by decide +kernel
theorem dX9_ofEdge_276 : decode cX9_ofEdge 276 = .ok (.baload, 1) := by decide +kernel
theorem dX9_ofEdge_277 : decode cX9_ofEdge 277 = .ok (.ifCond .eq 7, 3) := by decide +kernel
theorem dX9_ofEdge_280 : decode cX9_ofEdge 280 = .ok (.lconst 0, 1) := by decide +kernel
theorem dX9_ofEdge_281 : decode cX9_ofEdge 281 = .ok (.goto 46, 3) := by decide +kernel
theorem dX9_ofEdge_284 : decode cX9_ofEdge 284 = .ok (.aload_n 0, 1) := by decide +kernel
theorem dX9_ofEdge_285 : decode cX9_ofEdge 285 = .ok (.getfield 60, 3) := by decide +kernel
theorem dX9_ofEdge_288 : decode cX9_ofEdge 288 = .ok (.iload 4, 2) := by decide +kernel
theorem dX9_ofEdge_290 : decode cX9_ofEdge 290 = .ok (.laload, 1) := by decide +kernel
theorem dX9_ofEdge_291 : decode cX9_ofEdge 291 = .ok (.aload_n 0, 1) := by decide +kernel
theorem dX9_ofEdge_292 : decode cX9_ofEdge 292 = .ok (.getfield 63, 3) := by decide +kernel
theorem dX9_ofEdge_295 : decode cX9_ofEdge 295 = .ok (.bipush 20, 2) := by decide +kernel
theorem dX9_ofEdge_297 : decode cX9_ofEdge 297 = .ok (.iload_n 1, 1) := by decide +kernel
theorem dX9_ofEdge_298 : decode cX9_ofEdge 298 = .ok (.imul, 1) := by decide +kernel
theorem dX9_ofEdge_299 : decode cX9_ofEdge 299 = .ok (.aload_n 0, 1) := by decide +kernel
theorem dX9_ofEdge_300 : decode cX9_ofEdge 300 = .ok (.getfield 26, 3) := by decide +kernel
theorem dX9_ofEdge_303 : decode cX9_ofEdge 303 = .ok (.iload 4, 2) := by decide +kernel
theorem dX9_ofEdge_305 : decode cX9_ofEdge 305 = .ok (.iaload, 1) := by decide +kernel
theorem dX9_ofEdge_306 : decode cX9_ofEdge 306 = .ok (.iadd, 1) := by decide +kernel
theorem dX9_ofEdge_307 : decode cX9_ofEdge 307 = .ok (.laload, 1) := by decide +kernel
theorem dX9_ofEdge_308 : decode cX9_ofEdge 308 = .ok (.ladd, 1) := by decide +kernel
theorem dX9_ofEdge_309 : decode cX9_ofEdge 309 = .ok (.aload_n 0, 1) := by decide +kernel
theorem dX9_ofEdge_310 : decode cX9_ofEdge 310 = .ok (.getfield 63, 3) := by decide +kernel
theorem dX9_ofEdge_313 : decode cX9_ofEdge 313 = .ok (.bipush 20, 2) := by decide +kernel
theorem dX9_ofEdge_315 : decode cX9_ofEdge 315 = .ok (.iload_n 1, 1) := by decide +kernel
theorem dX9_ofEdge_316 : decode cX9_ofEdge 316 = .ok (.imul, 1) := by decide +kernel
theorem dX9_ofEdge_317 : decode cX9_ofEdge 317 = .ok (.aload_n 0, 1) := by decide +kernel
theorem dX9_ofEdge_318 : decode cX9_ofEdge 318 = .ok (.getfield 29, 3) := by decide +kernel
theorem dX9_ofEdge_321 : decode cX9_ofEdge 321 = .ok (.iload 4, 2) := by decide +kernel
theorem dX9_ofEdge_323 : decode cX9_ofEdge 323 = .ok (.iaload, 1) := by decide +kernel
theorem dX9_ofEdge_324 : decode cX9_ofEdge 324 = .ok (.iadd, 1) := by decide +kernel
theorem dX9_ofEdge_325 : decode cX9_ofEdge 325 = .ok (.laload, 1) := by decide +kernel
theorem dX9_ofEdge_326 : decode cX9_ofEdge 326 = .ok (.lsub, 1) := by decide +kernel
theorem dX9_ofEdge_327 : decode cX9_ofEdge 327 = .ok (.lreturn, 1) := by decide +kernel
def f_X9_ofEdge (a1 : Int32) (a2 : Int32) (a3 : Int32) (H : Hp) : Option (Int64 × Hp) := hl (sI H 0 0 34 0) (fun (H1 : Hp) => bnd (f_X9_isEdge a1 a2 H1) (fun w3 H2 => if w3 = 0 then bnd (f_X9_fails 1 H2) (fun w35 H34 => some (w35, H34)) else if a3 < 0 then bnd (f_X9_fails 2 H2) (fun w7 H6 => some (w7, H6)) else if a3 ≤ 9 then vl (((40 * a1) + a2)) (fun (v9 : Int32) => if a3 = 0 then gd v9 320 (some ((Int32.toInt64 (gI H2 0 6 (Int32.toNatClampNeg v9))), H2)) else if a3 = 1 then gd v9 320 (some ((Int32.toInt64 (gI H2 0 7 (Int32.toNatClampNeg v9))), H2)) else if a3 = 2 then gd v9 320 (some ((Int32.toInt64 (gI H2 0 8 (Int32.toNatClampNeg v9))), H2)) else if a3 = 3 then gd v9 320 (if (gI H2 0 9 (Int32.toNatClampNeg v9)) = 0 then some (0, H2) else some (1, H2)) else gd a1 8 (if (gI H2 0 3 (Int32.toNatClampNeg a1)) = 0 then if a3 = 5 then some ((-1), H2) else some (0, H2) else if a3 = 4 then gd v9 320 (if (gI H2 0 11 (Int32.toNatClampNeg v9)) = 0 then some (0, H2) else some (1, H2)) else (if a3 = 5 then gd v9 320 (if (gI H2 0 11 (Int32.toNatClampNeg v9)) = 0 then some ((-1), H2) else gd v9 320 (bnd (f_X9_outs a1 (gI H2 0 6 (Int32.toNatClampNeg v9)) H2) (fun w23 H22 => if w23 = 1 then some (1, H22) else gd v9 320 (bnd (f_X9_ins a1 (gI H22 0 7 (Int32.toNatClampNeg v9)) H22) (fun w26 H25 => if w26 = 1 then gd v9 320 (if (gI H25 0 7 (Int32.toNatClampNeg v9)) = 0 then some (0, H25) else some (2, H25)) else some (0, H25)))))) else (if a3 = 6 then gd v9 320 (some ((gJ H2 0 22 (Int32.toNatClampNeg v9)), H2)) else (if a3 = 7 then gd v9 320 (some ((gJ H2 0 23 (Int32.toNatClampNeg v9)), H2)) else (if a3 = 8 then gd v9 320 (some ((gJ H2 0 17 (Int32.toNatClampNeg v9)), H2)) else (gd v9 320 (if (gI H2 0 9 (Int32.toNatClampNeg v9)) = 0 then gd v9 320 (gd v9 320 (gd ((20 * a1) + (gI H2 0 6 (Int32.toNatClampNeg v9))) 160 (gd v9 320 (gd ((20 * a1) + (gI H2 0 7 (Int32.toNatClampNeg v9))) 160 (some ((((gJ H2 0 17 (Int32.toNatClampNeg v9)) + (gJ H2 0 18 (Int32.toNatClampNeg ((20 * a1) + (gI H2 0 6 (Int32.toNatClampNeg v9)))))) - (gJ H2 0 18 (Int32.toNatClampNeg ((20 * a1) + (gI H2 0 7 (Int32.toNatClampNeg v9)))))), H2)))))) else some (0, H2))))))))) else bnd (f_X9_fails 2 H2) (fun w33 H32 => some (w33, H32))))
set_option maxRecDepth 100000 in
set_option maxHeartbeats 4000000 in
theorem s_X9_ofEdge {p : Program} {l : Launch} {e : Env} {s : State} {m : MethodId} {args : Array Value} {below : List Frame} {meth : Method} {c : Code} {A : Nat → Prop} {D : va_G} {K4 : kQ} {ad : Nat → Nat → Nat} {nr : Nat} {a1 : Int32} {a2 : Int32} {a3 : Int32} {H : Hp} {res : Int64 × Hp} (hC : Cx p s m args c A s.heap D K4 5 RX9 cX9_ofEdge) (hret : meth.sig.returnType = (some .long) ∧ meth.locks = false) (h : f_X9_ofEdge a1 a2 a3 H = some res) : V p l e ({ frames := 2, cells := 0, slots := 0, locals := 43 }) s m args below meth c A s.heap (QJ below args s A D K4 ad nr res) D K4 ad nr 5 0 [(0, .ref (ad 0 0)), (1, .int a1), (2, .int a2), (3, .int a3)] [] H := by
  unfold f_X9_ofEdge at h
  refine V_aload_n hC 0 dX9_ofEdge_0 rfl ?_
  refine V_iconst (v := 0) hC dX9_ofEdge_1 (by decide) ?_
  refine V_putI (g := 0) (k := 0) hC 9 34 .int fw_X9_153 rfl rfl rfl rfl rfl dX9_ofEdge_2 ?_
  refine V_hl h (fun H1 h => ?_)
  refine V_aload_n hC 0 dX9_ofEdge_5 rfl ?_
  refine V_iload_n hC 1 dX9_ofEdge_6 rfl ?_
  refine V_iload_n hC 2 dX9_ofEdge_7 rfl ?_
  obtain ⟨w3, H2, hc, h⟩ := bnd_some h
  refine V_calli (g := 0) (k := 0) (As := [.int a1, .int a2]) (st := []) hC (c_X9_isEdge l hc) rfl ml_X9_176 ⟨Nat.le_of_ble_eq_true rfl, Nat.le_of_ble_eq_true rfl⟩ rfl rfl rfl (Nat.le_of_ble_eq_true rfl) dX9_ofEdge_8 ?_
  refine V_if_ne (tgt := 20) hC dX9_ofEdge_11 (by decide) (fun c4 => ?_) (fun c4 => ?_)
  · have h := it_neg c4 h
    refine V_iload_n hC 3 dX9_ofEdge_20 rfl ?_
    refine V_if_lt (tgt := 30) hC dX9_ofEdge_21 (by decide) (fun c5 => ?_) (fun c5 => ?_)
    · have h := it_pos c5 h
      refine V_aload_n hC 0 dX9_ofEdge_30 rfl ?_
      refine V_iconst (v := 2) hC dX9_ofEdge_31 (by decide) ?_
      obtain ⟨w7, H6, hc, h⟩ := bnd_some h
      refine V_calll (g := 0) (k := 0) (As := [.int 2]) (st := []) hC (c_X9_fails l hc) rfl ml_X9_214 ⟨Nat.le_of_ble_eq_true rfl, Nat.le_of_ble_eq_true rfl⟩ rfl rfl rfl (Nat.le_of_ble_eq_true rfl) dX9_ofEdge_32 ?_
      exact V_lret hC hret dX9_ofEdge_35 h
    · have h := it_neg c5 h
      refine V_iload_n hC 3 dX9_ofEdge_24 rfl ?_
      refine V_bipush (v := 9) hC dX9_ofEdge_25 (by decide) ?_
      refine V_icmp_le (tgt := 36) hC dX9_ofEdge_27 (by decide) (fun c8 => ?_) (fun c8 => ?_)
      · have h := it_pos c8 h
        refine V_bipush (v := 40) hC dX9_ofEdge_36 (by decide) ?_
        refine V_iload_n hC 1 dX9_ofEdge_38 rfl ?_
        refine V_imul hC dX9_ofEdge_39 ?_
        refine V_iload_n hC 2 dX9_ofEdge_40 rfl ?_
        refine V_iadd hC dX9_ofEdge_41 ?_
        refine V_vlI h (fun v9 h => ?_)
        refine V_istore (lv' := [(4, .int v9), (0, .ref (ad 0 0)), (1, .int a1), (2, .int a2), (3, .int a3)]) hC dX9_ofEdge_42 (Nat.le_of_ble_eq_true rfl) rfl ?_
        refine V_iload_n hC 4 dX9_ofEdge_44 rfl ?_
        refine V_if_ne (tgt := 57) hC dX9_ofEdge_45 (by decide) (fun c10 => ?_) (fun c10 => ?_)
        · have h := it_neg c10 h
          refine V_iload_n hC 4 dX9_ofEdge_57 rfl ?_
          refine V_iconst (v := 1) hC dX9_ofEdge_58 (by decide) ?_
          refine V_icmp_ne (tgt := 71) hC dX9_ofEdge_59 (by decide) (fun c11 => ?_) (fun c11 => ?_)
          · have h := it_neg c11 h
            refine V_iload_n hC 4 dX9_ofEdge_71 rfl ?_
            refine V_iconst (v := 2) hC dX9_ofEdge_72 (by decide) ?_
            refine V_icmp_ne (tgt := 85) hC dX9_ofEdge_73 (by decide) (fun c12 => ?_) (fun c12 => ?_)
            · have h := it_neg c12 h
              refine V_iload_n hC 4 dX9_ofEdge_85 rfl ?_
              refine V_iconst (v := 3) hC dX9_ofEdge_86 (by decide) ?_
              refine V_icmp_ne (tgt := 106) hC dX9_ofEdge_87 (by decide) (fun c13 => ?_) (fun c13 => ?_)
              · have h := it_neg c13 h
                refine V_aload_n hC 1 dX9_ofEdge_106 rfl ?_
                refine V_getR (g := 0) (k := 0) (g' := 0) (k' := 3) hC 9 3 fl_X9_16 rfl rfl rfl rfl dX9_ofEdge_107 ?_
                refine V_iload_n hC 2 dX9_ofEdge_110 rfl ?_
                obtain ⟨hi, h⟩ := gd_some h
                refine V_zald (g := 0) (k := 3) hC rfl rfl hi dX9_ofEdge_111 ?_
                refine V_if_ne (tgt := 128) hC dX9_ofEdge_112 (by decide) (fun c14 => ?_) (fun c14 => ?_)
                · have h := it_neg c14 h
                  refine V_iload_n hC 4 dX9_ofEdge_128 rfl ?_
                  by_cases c15 : a3 = 4
                  · have h := it_pos c15 h
                    refine V_tabE c15 ?_
                    refine V_tabIn (tgt := 164) hC dX9_ofEdge_129 (by decide) (by decide) rfl (by decide) ?_
                    refine V_aload_n hC 1 dX9_ofEdge_164 rfl ?_
                    refine V_getR (g := 0) (k := 0) (g' := 0) (k' := 11) hC 9 11 fl_X9_41 rfl rfl rfl rfl dX9_ofEdge_165 ?_
                    refine V_iload hC 0 dX9_ofEdge_168 rfl ?_
                    obtain ⟨hi, h⟩ := gd_some h
                    refine V_zald (g := 0) (k := 11) hC rfl rfl hi dX9_ofEdge_170 ?_
                    refine V_if_eq (tgt := 178) hC dX9_ofEdge_171 (by decide) (fun c29 => ?_) (fun c29 => ?_)
                    · have h := it_pos c29 h
                      refine V_lconst (v := 0) hC dX9_ofEdge_178 (by decide) ?_
                      exact V_lret hC hret dX9_ofEdge_179 h
                    · have h := it_neg c29 h
                      refine V_lconst (v := 1) hC dX9_ofEdge_174 (by decide) ?_
                      refine V_goto (tgt := 179) hC dX9_ofEdge_175 (by decide) ?_
                      exact V_lret hC hret dX9_ofEdge_179 h
                  · have h := it_neg c15 h
                    by_cases c16 : a3 = 5
                    · have h := it_pos c16 h
                      refine V_tabE c16 ?_
                      refine V_tabIn (tgt := 180) hC dX9_ofEdge_129 (by decide) (by decide) rfl (by decide) ?_
                      refine V_aload_n hC 1 dX9_ofEdge_180 rfl ?_
                      refine V_getR (g := 0) (k := 0) (g' := 0) (k' := 11) hC 9 11 fl_X9_41 rfl rfl rfl rfl dX9_ofEdge_181 ?_
                      refine V_iload hC 0 dX9_ofEdge_184 rfl ?_
                      obtain ⟨hi, h⟩ := gd_some h
                      refine V_zald (g := 0) (k := 11) hC rfl rfl hi dX9_ofEdge_186 ?_
                      refine V_if_ne (tgt := 194) hC dX9_ofEdge_187 (by decide) (fun c21 => ?_) (fun c21 => ?_)
                      · have h := it_neg c21 h
                        refine V_aload_n hC 1 dX9_ofEdge_194 rfl ?_
                        refine V_iload_n hC 2 dX9_ofEdge_195 rfl ?_
                        refine V_aload_n hC 1 dX9_ofEdge_196 rfl ?_
                        refine V_getR (g := 0) (k := 0) (g' := 0) (k' := 6) hC 9 6 fl_X9_26 rfl rfl rfl rfl dX9_ofEdge_197 ?_
                        refine V_iload hC 0 dX9_ofEdge_200 rfl ?_
                        obtain ⟨hi, h⟩ := gd_some h
                        refine V_iald (g := 0) (k := 6) hC rfl rfl hi dX9_ofEdge_202 ?_
                        obtain ⟨w23, H22, hc, h⟩ := bnd_some h
                        refine V_calli (g := 0) (k := 0) (As := [.int a1, .int (gI H2 0 6 (Int32.toNatClampNeg v9))]) (st := []) hC (c_X9_outs l hc) rfl ml_X9_172 ⟨Nat.le_of_ble_eq_true rfl, Nat.le_of_ble_eq_true rfl⟩ rfl rfl rfl (Nat.le_of_ble_eq_true rfl) dX9_ofEdge_203 ?_
                        refine V_iconst (v := 1) hC dX9_ofEdge_206 (by decide) ?_
                        refine V_icmp_ne (tgt := 212) hC dX9_ofEdge_207 (by decide) (fun c24 => ?_) (fun c24 => ?_)
                        · have h := it_neg c24 h
                          refine V_aload_n hC 1 dX9_ofEdge_212 rfl ?_
                          refine V_iload_n hC 2 dX9_ofEdge_213 rfl ?_
                          refine V_aload_n hC 1 dX9_ofEdge_214 rfl ?_
                          refine V_getR (g := 0) (k := 0) (g' := 0) (k' := 7) hC 9 7 fl_X9_29 rfl rfl rfl rfl dX9_ofEdge_215 ?_
                          refine V_iload hC 0 dX9_ofEdge_218 rfl ?_
                          obtain ⟨hi, h⟩ := gd_some h
                          refine V_iald (g := 0) (k := 7) hC rfl rfl hi dX9_ofEdge_220 ?_
                          obtain ⟨w26, H25, hc, h⟩ := bnd_some h
                          refine V_calli (g := 0) (k := 0) (As := [.int a1, .int (gI H22 0 7 (Int32.toNatClampNeg v9))]) (st := []) hC (c_X9_ins l hc) rfl ml_X9_218 ⟨Nat.le_of_ble_eq_true rfl, Nat.le_of_ble_eq_true rfl⟩ rfl rfl rfl (Nat.le_of_ble_eq_true rfl) dX9_ofEdge_221 ?_
                          refine V_iconst (v := 1) hC dX9_ofEdge_224 (by decide) ?_
                          refine V_icmp_ne (tgt := 244) hC dX9_ofEdge_225 (by decide) (fun c27 => ?_) (fun c27 => ?_)
                          · have h := it_neg c27 h
                            refine V_lconst (v := 0) hC dX9_ofEdge_244 (by decide) ?_
                            exact V_lret hC hret dX9_ofEdge_245 h
                          · have h := it_pos c27 h
                            refine V_aload_n hC 1 dX9_ofEdge_228 rfl ?_
                            refine V_getR (g := 0) (k := 0) (g' := 0) (k' := 7) hC 9 7 fl_X9_29 rfl rfl rfl rfl dX9_ofEdge_229 ?_
                            refine V_iload hC 0 dX9_ofEdge_232 rfl ?_
                            obtain ⟨hi, h⟩ := gd_some h
                            refine V_iald (g := 0) (k := 7) hC rfl rfl hi dX9_ofEdge_234 ?_
                            refine V_if_eq (tgt := 244) hC dX9_ofEdge_235 (by decide) (fun c28 => ?_) (fun c28 => ?_)
                            · have h := it_pos c28 h
                              refine V_lconst (v := 0) hC dX9_ofEdge_244 (by decide) ?_
                              exact V_lret hC hret dX9_ofEdge_245 h
                            · have h := it_neg c28 h
                              refine V_ldc2 hC dX9_ofEdge_238 cl_X9_221 ?_
                              refine V_goto (tgt := 245) hC dX9_ofEdge_241 (by decide) ?_
                              exact V_lret hC hret dX9_ofEdge_245 h
                        · have h := it_pos c24 h
                          refine V_lconst (v := 1) hC dX9_ofEdge_210 (by decide) ?_
                          exact V_lret hC hret dX9_ofEdge_211 h
                      · have h := it_pos c21 h
                        refine V_ldc2 hC dX9_ofEdge_190 cl_X9_189 ?_
                        exact V_lret hC hret dX9_ofEdge_193 h
                    · have h := it_neg c16 h
                      by_cases c17 : a3 = 6
                      · have h := it_pos c17 h
                        refine V_tabE c17 ?_
                        refine V_tabIn (tgt := 246) hC dX9_ofEdge_129 (by decide) (by decide) rfl (by decide) ?_
                        refine V_aload_n hC 1 dX9_ofEdge_246 rfl ?_
                        refine V_getR (g := 0) (k := 0) (g' := 0) (k' := 22) hC 9 22 fl_X9_75 rfl rfl rfl rfl dX9_ofEdge_247 ?_
                        refine V_iload hC 0 dX9_ofEdge_250 rfl ?_
                        obtain ⟨hi, h⟩ := gd_some h
                        refine V_lald (g := 0) (k := 22) hC rfl rfl hi dX9_ofEdge_252 ?_
                        exact V_lret hC hret dX9_ofEdge_253 h
                      · have h := it_neg c17 h
                        by_cases c18 : a3 = 7
                        · have h := it_pos c18 h
                          refine V_tabE c18 ?_
                          refine V_tabIn (tgt := 254) hC dX9_ofEdge_129 (by decide) (by decide) rfl (by decide) ?_
                          refine V_aload_n hC 1 dX9_ofEdge_254 rfl ?_
                          refine V_getR (g := 0) (k := 0) (g' := 0) (k' := 23) hC 9 23 fl_X9_78 rfl rfl rfl rfl dX9_ofEdge_255 ?_
                          refine V_iload hC 0 dX9_ofEdge_258 rfl ?_
                          obtain ⟨hi, h⟩ := gd_some h
                          refine V_lald (g := 0) (k := 23) hC rfl rfl hi dX9_ofEdge_260 ?_
                          exact V_lret hC hret dX9_ofEdge_261 h
                        · have h := it_neg c18 h
                          by_cases c19 : a3 = 8
                          · have h := it_pos c19 h
                            refine V_tabE c19 ?_
                            refine V_tabIn (tgt := 262) hC dX9_ofEdge_129 (by decide) (by decide) rfl (by decide) ?_
                            refine V_aload_n hC 1 dX9_ofEdge_262 rfl ?_
                            refine V_getR (g := 0) (k := 0) (g' := 0) (k' := 17) hC 9 17 fl_X9_60 rfl rfl rfl rfl dX9_ofEdge_263 ?_
                            refine V_iload hC 0 dX9_ofEdge_266 rfl ?_
                            obtain ⟨hi, h⟩ := gd_some h
                            refine V_lald (g := 0) (k := 17) hC rfl rfl hi dX9_ofEdge_268 ?_
                            exact V_lret hC hret dX9_ofEdge_269 h
                          · have h := it_neg c19 h
                            have tc15 : Int32.toInt a3 ≠ (4 : Int) := i32ne c15
                            have tc16 : Int32.toInt a3 ≠ (5 : Int) := i32ne c16
                            have tc17 : Int32.toInt a3 ≠ (6 : Int) := i32ne c17
                            have tc18 : Int32.toInt a3 ≠ (7 : Int) := i32ne c18
                            have tc19 : Int32.toInt a3 ≠ (8 : Int) := i32ne c19
                            refine V_tabOut (tgt := 270) hC dX9_ofEdge_129 (by omega) (by decide) ?_
                            refine V_aload_n hC 1 dX9_ofEdge_270 rfl ?_
                            refine V_getR (g := 0) (k := 0) (g' := 0) (k' := 9) hC 9 9 fl_X9_35 rfl rfl rfl rfl dX9_ofEdge_271 ?_
                            refine V_iload hC 0 dX9_ofEdge_274 rfl ?_
                            obtain ⟨hi, h⟩ := gd_some h
                            refine V_zald (g := 0) (k := 9) hC rfl rfl hi dX9_ofEdge_276 ?_
                            refine V_if_eq (tgt := 284) hC dX9_ofEdge_277 (by decide) (fun c20 => ?_) (fun c20 => ?_)
                            · have h := it_pos c20 h
                              refine V_aload_n hC 1 dX9_ofEdge_284 rfl ?_
                              refine V_getR (g := 0) (k := 0) (g' := 0) (k' := 17) hC 9 17 fl_X9_60 rfl rfl rfl rfl dX9_ofEdge_285 ?_
                              refine V_iload hC 0 dX9_ofEdge_288 rfl ?_
                              obtain ⟨hi, h⟩ := gd_some h
                              refine V_lald (g := 0) (k := 17) hC rfl rfl hi dX9_ofEdge_290 ?_
                              refine V_aload_n hC 1 dX9_ofEdge_291 rfl ?_
                              refine V_getR (g := 0) (k := 0) (g' := 0) (k' := 18) hC 9 18 fl_X9_63 rfl rfl rfl rfl dX9_ofEdge_292 ?_
                              refine V_bipush (v := 20) hC dX9_ofEdge_295 (by decide) ?_
                              refine V_iload_n hC 2 dX9_ofEdge_297 rfl ?_
                              refine V_imul hC dX9_ofEdge_298 ?_
                              refine V_aload_n hC 1 dX9_ofEdge_299 rfl ?_
                              refine V_getR (g := 0) (k := 0) (g' := 0) (k' := 6) hC 9 6 fl_X9_26 rfl rfl rfl rfl dX9_ofEdge_300 ?_
                              refine V_iload hC 0 dX9_ofEdge_303 rfl ?_
                              obtain ⟨hi, h⟩ := gd_some h
                              refine V_iald (g := 0) (k := 6) hC rfl rfl hi dX9_ofEdge_305 ?_
                              refine V_iadd hC dX9_ofEdge_306 ?_
                              obtain ⟨hi, h⟩ := gd_some h
                              refine V_lald (g := 0) (k := 18) hC rfl rfl hi dX9_ofEdge_307 ?_
                              refine V_ladd hC dX9_ofEdge_308 ?_
                              refine V_aload_n hC 1 dX9_ofEdge_309 rfl ?_
                              refine V_getR (g := 0) (k := 0) (g' := 0) (k' := 18) hC 9 18 fl_X9_63 rfl rfl rfl rfl dX9_ofEdge_310 ?_
                              refine V_bipush (v := 20) hC dX9_ofEdge_313 (by decide) ?_
                              refine V_iload_n hC 2 dX9_ofEdge_315 rfl ?_
                              refine V_imul hC dX9_ofEdge_316 ?_
                              refine V_aload_n hC 1 dX9_ofEdge_317 rfl ?_
                              refine V_getR (g := 0) (k := 0) (g' := 0) (k' := 7) hC 9 7 fl_X9_29 rfl rfl rfl rfl dX9_ofEdge_318 ?_
                              refine V_iload hC 0 dX9_ofEdge_321 rfl ?_
                              obtain ⟨hi, h⟩ := gd_some h
                              refine V_iald (g := 0) (k := 7) hC rfl rfl hi dX9_ofEdge_323 ?_
                              refine V_iadd hC dX9_ofEdge_324 ?_
                              obtain ⟨hi, h⟩ := gd_some h
                              refine V_lald (g := 0) (k := 18) hC rfl rfl hi dX9_ofEdge_325 ?_
                              refine V_lsub hC dX9_ofEdge_326 ?_
                              exact V_lret hC hret dX9_ofEdge_327 h
                            · have h := it_neg c20 h
                              refine V_lconst (v := 0) hC dX9_ofEdge_280 (by decide) ?_
                              refine V_goto (tgt := 327) hC dX9_ofEdge_281 (by decide) ?_
                              exact V_lret hC hret dX9_ofEdge_327 h
                · have h := it_pos c14 h
                  refine V_iload_n hC 4 dX9_ofEdge_115 rfl ?_
                  refine V_iconst (v := 5) hC dX9_ofEdge_116 (by decide) ?_
                  refine V_icmp_ne (tgt := 126) hC dX9_ofEdge_117 (by decide) (fun c30 => ?_) (fun c30 => ?_)
                  · have h := it_neg c30 h
                    refine V_lconst (v := 0) hC dX9_ofEdge_126 (by decide) ?_
                    exact V_lret hC hret dX9_ofEdge_127 h
                  · have h := it_pos c30 h
                    refine V_ldc2 hC dX9_ofEdge_120 cl_X9_189 ?_
                    refine V_goto (tgt := 127) hC dX9_ofEdge_123 (by decide) ?_
                    exact V_lret hC hret dX9_ofEdge_127 h
              · have h := it_pos c13 h
                refine V_aload_n hC 1 dX9_ofEdge_90 rfl ?_
                refine V_getR (g := 0) (k := 0) (g' := 0) (k' := 9) hC 9 9 fl_X9_35 rfl rfl rfl rfl dX9_ofEdge_91 ?_
                refine V_iload hC 0 dX9_ofEdge_94 rfl ?_
                obtain ⟨hi, h⟩ := gd_some h
                refine V_zald (g := 0) (k := 9) hC rfl rfl hi dX9_ofEdge_96 ?_
                refine V_if_eq (tgt := 104) hC dX9_ofEdge_97 (by decide) (fun c31 => ?_) (fun c31 => ?_)
                · have h := it_pos c31 h
                  refine V_lconst (v := 0) hC dX9_ofEdge_104 (by decide) ?_
                  exact V_lret hC hret dX9_ofEdge_105 h
                · have h := it_neg c31 h
                  refine V_lconst (v := 1) hC dX9_ofEdge_100 (by decide) ?_
                  refine V_goto (tgt := 105) hC dX9_ofEdge_101 (by decide) ?_
                  exact V_lret hC hret dX9_ofEdge_105 h
            · have h := it_pos c12 h
              refine V_aload_n hC 1 dX9_ofEdge_76 rfl ?_
              refine V_getR (g := 0) (k := 0) (g' := 0) (k' := 8) hC 9 8 fl_X9_32 rfl rfl rfl rfl dX9_ofEdge_77 ?_
              refine V_iload hC 0 dX9_ofEdge_80 rfl ?_
              obtain ⟨hi, h⟩ := gd_some h
              refine V_iald (g := 0) (k := 8) hC rfl rfl hi dX9_ofEdge_82 ?_
              refine V_i2l hC dX9_ofEdge_83 ?_
              exact V_lret hC hret dX9_ofEdge_84 h
          · have h := it_pos c11 h
            refine V_aload_n hC 1 dX9_ofEdge_62 rfl ?_
            refine V_getR (g := 0) (k := 0) (g' := 0) (k' := 7) hC 9 7 fl_X9_29 rfl rfl rfl rfl dX9_ofEdge_63 ?_
            refine V_iload hC 0 dX9_ofEdge_66 rfl ?_
            obtain ⟨hi, h⟩ := gd_some h
            refine V_iald (g := 0) (k := 7) hC rfl rfl hi dX9_ofEdge_68 ?_
            refine V_i2l hC dX9_ofEdge_69 ?_
            exact V_lret hC hret dX9_ofEdge_70 h
        · have h := it_pos c10 h
          refine V_aload_n hC 1 dX9_ofEdge_48 rfl ?_
          refine V_getR (g := 0) (k := 0) (g' := 0) (k' := 6) hC 9 6 fl_X9_26 rfl rfl rfl rfl dX9_ofEdge_49 ?_
          refine V_iload hC 0 dX9_ofEdge_52 rfl ?_
          obtain ⟨hi, h⟩ := gd_some h
          refine V_iald (g := 0) (k := 6) hC rfl rfl hi dX9_ofEdge_54 ?_
          refine V_i2l hC dX9_ofEdge_55 ?_
          exact V_lret hC hret dX9_ofEdge_56 h
      · have h := it_neg c8 h
        refine V_aload_n hC 0 dX9_ofEdge_30 rfl ?_
        refine V_iconst (v := 2) hC dX9_ofEdge_31 (by decide) ?_
        obtain ⟨w33, H32, hc, h⟩ := bnd_some h
        refine V_calll (g := 0) (k := 0) (As := [.int 2]) (st := []) hC (c_X9_fails l hc) rfl ml_X9_214 ⟨Nat.le_of_ble_eq_true rfl, Nat.le_of_ble_eq_true rfl⟩ rfl rfl rfl (Nat.le_of_ble_eq_true rfl) dX9_ofEdge_32 ?_
        exact V_lret hC hret dX9_ofEdge_35 h
  · have h := it_pos c4 h
    refine V_aload_n hC 0 dX9_ofEdge_14 rfl ?_
    refine V_iconst (v := 1) hC dX9_ofEdge_15 (by decide) ?_
    obtain ⟨w35, H34, hc, h⟩ := bnd_some h
    refine V_calll (g := 0) (k := 0) (As := [.int 1]) (st := []) hC (c_X9_fails l hc) rfl ml_X9_214 ⟨Nat.le_of_ble_eq_true rfl, Nat.le_of_ble_eq_true rfl⟩ rfl rfl rfl (Nat.le_of_ble_eq_true rfl) dX9_ofEdge_16 ?_
    exact V_lret hC hret dX9_ofEdge_19 h
theorem c_X9_ofEdge (l : Launch) {nr : Nat} {a1 : Int32} {a2 : Int32} {a3 : Int32} {H : Hp} {x : Int64} {H' : Hp} (h : f_X9_ofEdge a1 a2 a3 H = some (x, H')) : CJ l nr yX9_ofEdge cX9_ofEdge 5 (some .long) 2 43 (fun ad => [.ref (ad 0 0), .int a1, .int a2, .int a3]) H x H' := by
  intro D K4 ad sz
  refine Met.ofV (by decide) (Nat.le_of_ble_eq_true rfl) ?_
  intro p e s m args below meth c hC hret hsz
  subst hsz
  exact s_X9_ofEdge hC hret h
theorem dX9_openOf_0 : decode cX9_openOf 0 = .ok (.iconst 0, 1) := by decide +kernel
theorem dX9_openOf_1 : decode cX9_openOf 1 = .ok (.istore_n 3, 1) := by decide +kernel
theorem dX9_openOf_2 : decode cX9_openOf 2 = .ok (.iconst 0, 1) := by decide +kernel
theorem dX9_openOf_3 : decode cX9_openOf 3 = .ok (.istore 4, 2) := by decide +kernel
theorem dX9_openOf_5 : decode cX9_openOf 5 = .ok (.iload 4, 2) := by decide +kernel
theorem dX9_openOf_7 : decode cX9_openOf 7 = .ok (.aload_n 0, 1) := by decide +kernel
theorem dX9_openOf_8 : decode cX9_openOf 8 = .ok (.getfield 211, 3) := by decide +kernel
theorem dX9_openOf_11 : decode cX9_openOf 11 = .ok (.if_icmp .ge 39, 3) := by decide +kernel
theorem dX9_openOf_14 : decode cX9_openOf 14 = .ok (.iload_n 3, 1) := by decide +kernel
theorem dX9_openOf_15 : decode cX9_openOf 15 = .ok (.aload_n 0, 1) := by decide +kernel
theorem dX9_openOf_16 : decode cX9_openOf 16 = .ok (.getfield 90, 3) := by decide +kernel
theorem dX9_openOf_19 : decode cX9_openOf 19 = .ok (.iload 4, 2) := by decide +kernel
theorem dX9_openOf_21 : decode cX9_openOf 21 = .ok (.iaload, 1) := by decide +kernel
theorem dX9_openOf_22 : decode cX9_openOf 22 = .ok (.iload_n 1, 1) := by decide +kernel
theorem dX9_openOf_23 : decode cX9_openOf 23 = .ok (.if_icmp .ne 18, 3) := by decide +kernel
theorem dX9_openOf_26 : decode cX9_openOf 26 = .ok (.aload_n 0, 1) := by decide +kernel
theorem dX9_openOf_27 : decode cX9_openOf 27 = .ok (.getfield 93, 3) := by decide +kernel
theorem dX9_openOf_30 : decode cX9_openOf 30 = .ok (.iload 4, 2) := by decide +kernel
theorem dX9_openOf_32 : decode cX9_openOf 32 = .ok (.iaload, 1) := by decide +kernel
theorem dX9_openOf_33 : decode cX9_openOf 33 = .ok (.iload_n 2, 1) := by decide +kernel
theorem dX9_openOf_34 : decode cX9_openOf 34 = .ok (.if_icmp .ne 7, 3) := by decide +kernel
theorem dX9_openOf_37 : decode cX9_openOf 37 = .ok (.iconst 1, 1) := by decide +kernel
theorem dX9_openOf_38 : decode cX9_openOf 38 = .ok (.goto 4, 3) := by decide +kernel
theorem dX9_openOf_41 : decode cX9_openOf 41 = .ok (.iconst 0, 1) := by decide +kernel
theorem dX9_openOf_42 : decode cX9_openOf 42 = .ok (.iadd, 1) := by decide +kernel
theorem dX9_openOf_43 : decode cX9_openOf 43 = .ok (.istore_n 3, 1) := by decide +kernel
theorem dX9_openOf_44 : decode cX9_openOf 44 = .ok (.iinc 4 1, 3) := by decide +kernel
theorem dX9_openOf_47 : decode cX9_openOf 47 = .ok (.goto (-42), 3) := by decide +kernel
theorem dX9_openOf_50 : decode cX9_openOf 50 = .ok (.iload_n 3, 1) := by decide +kernel
theorem dX9_openOf_51 : decode cX9_openOf 51 = .ok (.ireturn, 1) := by decide +kernel
def L_X9_openOf_5 (b1 : Int32) (b2 : Int32) (k : Int32 → Hp → Option (Int32 × Hp)) : Nat → Int32 → Int32 → Hp → Option (Int32 × Hp)
  | 0, _, _, _ => none
  | n + 1, x3, x4, H => if (gI H 0 0 28) ≤ x4 then k x3 H else gd x4 30 (if (gI H 0 31 (Int32.toNatClampNeg x4)) = b1 then gd x4 30 (if (gI H 0 32 (Int32.toNatClampNeg x4)) = b2 then vl ((x3 + 1)) (fun (v8 : Int32) => vl (x4 + (1 : Int32)) (fun (v9 : Int32) => L_X9_openOf_5 b1 b2 k n v8 v9 H)) else vl ((x3 + 0)) (fun (v6 : Int32) => vl (x4 + (1 : Int32)) (fun (v7 : Int32) => L_X9_openOf_5 b1 b2 k n v6 v7 H))) else vl ((x3 + 0)) (fun (v3 : Int32) => vl (x4 + (1 : Int32)) (fun (v4 : Int32) => L_X9_openOf_5 b1 b2 k n v3 v4 H)))
set_option maxRecDepth 100000 in
set_option maxHeartbeats 4000000 in
theorem sL_X9_openOf_5 {p : Program} {l : Launch} {e : Env} {s : State} {m : MethodId} {args : Array Value} {below : List Frame} {meth : Method} {c : Code} {A : Nat → Prop} {D : va_G} {K4 : kQ} {ad : Nat → Nat → Nat} {nr : Nat} {b1 : Int32} {b2 : Int32} {k : Int32 → Hp → Option (Int32 × Hp)} {res : Int32 × Hp} (hC : Cx p s m args c A s.heap D K4 5 RX9 cX9_openOf) (hret : meth.sig.returnType = (some .int) ∧ meth.locks = false) (hk : ∀ (z3 : Int32) (H : Hp), k z3 H = some res → V p l e ({ frames := 0, cells := 0, slots := 0, locals := 0 }) s m args below meth c A s.heap (QI below args s A D K4 ad nr res) D K4 ad nr 5 50 [(3, .int z3)] [] H) : ∀ (n : Nat) (x3 : Int32) (x4 : Int32) (H : Hp), L_X9_openOf_5 b1 b2 k n x3 x4 H = some res → V p l e ({ frames := 0, cells := 0, slots := 0, locals := 0 }) s m args below meth c A s.heap (QI below args s A D K4 ad nr res) D K4 ad nr 5 5 [(0, .ref (ad 0 0)), (1, .int b1), (2, .int b2), (3, .int x3), (4, .int x4)] [] H := by
  intro n
  induction n with
  | zero => intro x3 x4 H h; exact nomatch (show (none : Option (Int32 × Hp)) = some res from h)
  | succ n ih =>
    intro x3 x4 H h
    rw [L_X9_openOf_5] at h
    refine V_iload hC 4 dX9_openOf_5 rfl ?_
    refine V_aload_n hC 0 dX9_openOf_7 rfl ?_
    refine V_getI (g := 0) (k := 0) hC 9 28 fl_X9_211 rfl rfl rfl dX9_openOf_8 ?_
    refine V_icmp_ge (tgt := 50) hC dX9_openOf_11 (by decide) (fun c1 => ?_) (fun c1 => ?_)
    · have h := it_pos c1 h
      refine V_lv (lv' := [(3, .int x3)]) [3] rfl ?_
      exact hk x3 H h
    · have h := it_neg c1 h
      refine V_iload_n hC 3 dX9_openOf_14 rfl ?_
      refine V_aload_n hC 0 dX9_openOf_15 rfl ?_
      refine V_getR (g := 0) (k := 0) (g' := 0) (k' := 31) hC 9 31 fl_X9_90 rfl rfl rfl rfl dX9_openOf_16 ?_
      refine V_iload hC 4 dX9_openOf_19 rfl ?_
      obtain ⟨hi, h⟩ := gd_some h
      refine V_iald (g := 0) (k := 31) hC rfl rfl hi dX9_openOf_21 ?_
      refine V_iload_n hC 1 dX9_openOf_22 rfl ?_
      refine V_icmp_ne (tgt := 41) hC dX9_openOf_23 (by decide) (fun c2 => ?_) (fun c2 => ?_)
      · have h := it_neg c2 h
        refine V_iconst (v := 0) hC dX9_openOf_41 (by decide) ?_
        refine V_iadd hC dX9_openOf_42 ?_
        refine V_vlI h (fun v3 h => ?_)
        refine V_istore_n (lv' := [(3, .int v3), (0, .ref (ad 0 0)), (1, .int b1), (2, .int b2), (4, .int x4)]) hC dX9_openOf_43 (Nat.le_of_ble_eq_true rfl) rfl ?_
        refine V_vi h (fun v4 hvv4 h => ?_)
        refine V_iinc (v := v4) (lv' := [(4, .int v4), (3, .int v3), (0, .ref (ad 0 0)), (1, .int b1), (2, .int b2)]) hC 4 dX9_openOf_44 rfl hvv4.symm (Nat.le_of_ble_eq_true rfl) rfl ?_
        refine V_goto (tgt := 5) hC dX9_openOf_47 (by decide) ?_
        refine V_lv (lv' := [(0, .ref (ad 0 0)), (1, .int b1), (2, .int b2), (3, .int v3), (4, .int v4)]) [2, 3, 4, 1, 0] rfl ?_
        exact ih v3 v4 H h
      · have h := it_pos c2 h
        refine V_aload_n hC 0 dX9_openOf_26 rfl ?_
        refine V_getR (g := 0) (k := 0) (g' := 0) (k' := 32) hC 9 32 fl_X9_93 rfl rfl rfl rfl dX9_openOf_27 ?_
        refine V_iload hC 4 dX9_openOf_30 rfl ?_
        obtain ⟨hi, h⟩ := gd_some h
        refine V_iald (g := 0) (k := 32) hC rfl rfl hi dX9_openOf_32 ?_
        refine V_iload_n hC 2 dX9_openOf_33 rfl ?_
        refine V_icmp_ne (tgt := 41) hC dX9_openOf_34 (by decide) (fun c5 => ?_) (fun c5 => ?_)
        · have h := it_neg c5 h
          refine V_iconst (v := 0) hC dX9_openOf_41 (by decide) ?_
          refine V_iadd hC dX9_openOf_42 ?_
          refine V_vlI h (fun v6 h => ?_)
          refine V_istore_n (lv' := [(3, .int v6), (0, .ref (ad 0 0)), (1, .int b1), (2, .int b2), (4, .int x4)]) hC dX9_openOf_43 (Nat.le_of_ble_eq_true rfl) rfl ?_
          refine V_vi h (fun v7 hvv7 h => ?_)
          refine V_iinc (v := v7) (lv' := [(4, .int v7), (3, .int v6), (0, .ref (ad 0 0)), (1, .int b1), (2, .int b2)]) hC 4 dX9_openOf_44 rfl hvv7.symm (Nat.le_of_ble_eq_true rfl) rfl ?_
          refine V_goto (tgt := 5) hC dX9_openOf_47 (by decide) ?_
          refine V_lv (lv' := [(0, .ref (ad 0 0)), (1, .int b1), (2, .int b2), (3, .int v6), (4, .int v7)]) [2, 3, 4, 1, 0] rfl ?_
          exact ih v6 v7 H h
        · have h := it_pos c5 h
          refine V_iconst (v := 1) hC dX9_openOf_37 (by decide) ?_
          refine V_goto (tgt := 42) hC dX9_openOf_38 (by decide) ?_
          refine V_iadd hC dX9_openOf_42 ?_
          refine V_vlI h (fun v8 h => ?_)
          refine V_istore_n (lv' := [(3, .int v8), (0, .ref (ad 0 0)), (1, .int b1), (2, .int b2), (4, .int x4)]) hC dX9_openOf_43 (Nat.le_of_ble_eq_true rfl) rfl ?_
          refine V_vi h (fun v9 hvv9 h => ?_)
          refine V_iinc (v := v9) (lv' := [(4, .int v9), (3, .int v8), (0, .ref (ad 0 0)), (1, .int b1), (2, .int b2)]) hC 4 dX9_openOf_44 rfl hvv9.symm (Nat.le_of_ble_eq_true rfl) rfl ?_
          refine V_goto (tgt := 5) hC dX9_openOf_47 (by decide) ?_
          refine V_lv (lv' := [(0, .ref (ad 0 0)), (1, .int b1), (2, .int b2), (3, .int v8), (4, .int v9)]) [2, 3, 4, 1, 0] rfl ?_
          exact ih v8 v9 H h
def f_X9_openOf (a1 : Int32) (a2 : Int32) (H : Hp) : Option (Int32 × Hp) := L_X9_openOf_5 a1 a2 (fun (z10 : Int32) (H11 : Hp) => some (z10, H11)) FU 0 0 H
set_option maxRecDepth 100000 in
set_option maxHeartbeats 4000000 in
theorem s_X9_openOf {p : Program} {l : Launch} {e : Env} {s : State} {m : MethodId} {args : Array Value} {below : List Frame} {meth : Method} {c : Code} {A : Nat → Prop} {D : va_G} {K4 : kQ} {ad : Nat → Nat → Nat} {nr : Nat} {a1 : Int32} {a2 : Int32} {H : Hp} {res : Int32 × Hp} (hC : Cx p s m args c A s.heap D K4 5 RX9 cX9_openOf) (hret : meth.sig.returnType = (some .int) ∧ meth.locks = false) (h : f_X9_openOf a1 a2 H = some res) : V p l e ({ frames := 0, cells := 0, slots := 0, locals := 0 }) s m args below meth c A s.heap (QI below args s A D K4 ad nr res) D K4 ad nr 5 0 [(0, .ref (ad 0 0)), (1, .int a1), (2, .int a2)] [] H := by
  unfold f_X9_openOf at h
  refine V_iconst (v := 0) hC dX9_openOf_0 (by decide) ?_
  refine V_istore_n (lv' := [(3, .int 0), (0, .ref (ad 0 0)), (1, .int a1), (2, .int a2)]) hC dX9_openOf_1 (Nat.le_of_ble_eq_true rfl) rfl ?_
  refine V_iconst (v := 0) hC dX9_openOf_2 (by decide) ?_
  refine V_istore (lv' := [(4, .int 0), (3, .int 0), (0, .ref (ad 0 0)), (1, .int a1), (2, .int a2)]) hC dX9_openOf_3 (Nat.le_of_ble_eq_true rfl) rfl ?_
  refine V_lv (lv' := [(0, .ref (ad 0 0)), (1, .int a1), (2, .int a2), (3, .int 0), (4, .int 0)]) [2, 3, 4, 1, 0] rfl ?_
  refine sL_X9_openOf_5 hC hret (fun z10 H11 h => ?_) _ 0 0 H h
  refine V_iload_n hC 0 dX9_openOf_50 rfl ?_
  exact V_iret hC hret dX9_openOf_51 h
theorem c_X9_openOf (l : Launch) {nr : Nat} {a1 : Int32} {a2 : Int32} {H : Hp} {x : Int32} {H' : Hp} (h : f_X9_openOf a1 a2 H = some (x, H')) : CI l nr yX9_openOf cX9_openOf 5 (some .int) 0 0 (fun ad => [.ref (ad 0 0), .int a1, .int a2]) H x H' := by
  intro D K4 ad sz
  refine Met.ofV (by decide) (Nat.le_of_ble_eq_true rfl) ?_
  intro p e s m args below meth c hC hret hsz
  subst hsz
  exact s_X9_openOf hC hret h
theorem dX9_ofBlock_0 : decode cX9_ofBlock 0 = .ok (.aload_n 0, 1) := by decide +kernel
theorem dX9_ofBlock_1 : decode cX9_ofBlock 1 = .ok (.iconst 0, 1) := by decide +kernel
theorem dX9_ofBlock_2 : decode cX9_ofBlock 2 = .ok (.putfield 153, 3) := by decide +kernel
theorem dX9_ofBlock_5 : decode cX9_ofBlock 5 = .ok (.aload_n 0, 1) := by decide +kernel
theorem dX9_ofBlock_6 : decode cX9_ofBlock 6 = .ok (.iload_n 1, 1) := by decide +kernel
theorem dX9_ofBlock_7 : decode cX9_ofBlock 7 = .ok (.iload_n 2, 1) := by decide +kernel
theorem dX9_ofBlock_8 : decode cX9_ofBlock 8 = .ok (.invokevirtual 165, 3) := by decide +kernel
theorem dX9_ofBlock_11 : decode cX9_ofBlock 11 = .ok (.ifCond .ne 9, 3) := by decide +kernel
theorem dX9_ofBlock_14 : decode cX9_ofBlock 14 = .ok (.aload_n 0, 1) := by decide +kernel
theorem dX9_ofBlock_15 : decode cX9_ofBlock 15 = .ok (.iconst 1, 1) := by decide +kernel
theorem dX9_ofBlock_16 : decode cX9_ofBlock 16 = .ok (.invokevirtual 214, 3) := by decide +kernel
theorem dX9_ofBlock_19 : decode cX9_ofBlock 19 = .ok (.lreturn, 1) := by decide +kernel
theorem dX9_ofBlock_20 : decode cX9_ofBlock 20 = .ok (.iload_n 3, 1) := by decide +kernel
theorem dX9_ofBlock_21 : decode cX9_ofBlock 21 = .ok (.ifCond .lt 9, 3) := by decide +kernel
theorem dX9_ofBlock_24 : decode cX9_ofBlock 24 = .ok (.iload_n 3, 1) := by decide +kernel
theorem dX9_ofBlock_25 : decode cX9_ofBlock 25 = .ok (.bipush 8, 2) := by decide +kernel
theorem dX9_ofBlock_27 : decode cX9_ofBlock 27 = .ok (.if_icmp .le 9, 3) := by decide +kernel
theorem dX9_ofBlock_30 : decode cX9_ofBlock 30 = .ok (.aload_n 0, 1) := by decide +kernel
theorem dX9_ofBlock_31 : decode cX9_ofBlock 31 = .ok (.iconst 2, 1) := by decide +kernel
theorem dX9_ofBlock_32 : decode cX9_ofBlock 32 = .ok (.invokevirtual 214, 3) := by decide +kernel
theorem dX9_ofBlock_35 : decode cX9_ofBlock 35 = .ok (.lreturn, 1) := by decide +kernel
theorem dX9_ofBlock_36 : decode cX9_ofBlock 36 = .ok (.bipush 20, 2) := by decide +kernel
theorem dX9_ofBlock_38 : decode cX9_ofBlock 38 = .ok (.iload_n 1, 1) := by decide +kernel
theorem dX9_ofBlock_39 : decode cX9_ofBlock 39 = .ok (.imul, 1) := by decide +kernel
theorem dX9_ofBlock_40 : decode cX9_ofBlock 40 = .ok (.iload_n 2, 1) := by decide +kernel
theorem dX9_ofBlock_41 : decode cX9_ofBlock 41 = .ok (.iadd, 1) := by decide +kernel
theorem dX9_ofBlock_42 : decode cX9_ofBlock 42 = .ok (.istore 4, 2) := by decide +kernel
theorem dX9_ofBlock_44 : decode cX9_ofBlock 44 = .ok (.iload_n 3, 1) := by decide +kernel
theorem dX9_ofBlock_45 : decode cX9_ofBlock 45 = .ok (.ifCond .ne 12, 3) := by decide +kernel
theorem dX9_ofBlock_48 : decode cX9_ofBlock 48 = .ok (.aload_n 0, 1) := by decide +kernel
theorem dX9_ofBlock_49 : decode cX9_ofBlock 49 = .ok (.getfield 20, 3) := by decide +kernel
theorem dX9_ofBlock_52 : decode cX9_ofBlock 52 = .ok (.iload 4, 2) := by decide +kernel
theorem dX9_ofBlock_54 : decode cX9_ofBlock 54 = .ok (.iaload, 1) := by decide +kernel
theorem dX9_ofBlock_55 : decode cX9_ofBlock 55 = .ok (.i2l, 1) := by decide +kernel
theorem dX9_ofBlock_56 : decode cX9_ofBlock 56 = .ok (.lreturn, 1) := by decide +kernel
theorem dX9_ofBlock_57 : decode cX9_ofBlock 57 = .ok (.iload_n 3, 1) := by decide +kernel
theorem dX9_ofBlock_58 : decode cX9_ofBlock 58 = .ok (.iconst 1, 1) := by decide +kernel
theorem dX9_ofBlock_59 : decode cX9_ofBlock 59 = .ok (.if_icmp .ne 12, 3) := by decide +kernel
theorem dX9_ofBlock_62 : decode cX9_ofBlock 62 = .ok (.aload_n 0, 1) := by decide +kernel
theorem dX9_ofBlock_63 : decode cX9_ofBlock 63 = .ok (.getfield 23, 3) := by decide +kernel
theorem dX9_ofBlock_66 : decode cX9_ofBlock 66 = .ok (.iload 4, 2) := by decide +kernel
theorem dX9_ofBlock_68 : decode cX9_ofBlock 68 = .ok (.iaload, 1) := by decide +kernel
theorem dX9_ofBlock_69 : decode cX9_ofBlock 69 = .ok (.i2l, 1) := by decide +kernel
theorem dX9_ofBlock_70 : decode cX9_ofBlock 70 = .ok (.lreturn, 1) := by decide +kernel
theorem dX9_ofBlock_71 : decode cX9_ofBlock 71 = .ok (.iload_n 3, 1) := by decide +kernel
theorem dX9_ofBlock_72 : decode cX9_ofBlock 72 = .ok (.iconst 2, 1) := by decide +kernel
theorem dX9_ofBlock_73 : decode cX9_ofBlock 73 = .ok (.if_icmp .ne 11, 3) := by decide +kernel
theorem dX9_ofBlock_76 : decode cX9_ofBlock 76 = .ok (.aload_n 0, 1) := by decide +kernel
theorem dX9_ofBlock_77 : decode cX9_ofBlock 77 = .ok (.iload_n 1, 1) := by decide +kernel
theorem dX9_ofBlock_78 : decode cX9_ofBlock 78 = .ok (.iload_n 2, 1) := by decide +kernel
theorem dX9_ofBlock_79 : decode cX9_ofBlock 79 = .ok (.invokevirtual 172, 3) := by decide +kernel
theorem dX9_ofBlock_82 : decode cX9_ofBlock 82 = .ok (.i2l, 1) := by decide +kernel
theorem dX9_ofBlock_83 : decode cX9_ofBlock 83 = .ok (.lreturn, 1) := by decide +kernel
theorem dX9_ofBlock_84 : decode cX9_ofBlock 84 = .ok (.iload_n 3, 1) := by decide +kernel
theorem dX9_ofBlock_85 : decode cX9_ofBlock 85 = .ok (.iconst 3, 1) := by decide +kernel
theorem dX9_ofBlock_86 : decode cX9_ofBlock 86 = .ok (.if_icmp .ne 11, 3) := by decide +kernel
theorem dX9_ofBlock_89 : decode cX9_ofBlock 89 = .ok (.aload_n 0, 1) := by decide +kernel
theorem dX9_ofBlock_90 : decode cX9_ofBlock 90 = .ok (.iload_n 1, 1) := by decide +kernel
theorem dX9_ofBlock_91 : decode cX9_ofBlock 91 = .ok (.iload_n 2, 1) := by decide +kernel
theorem dX9_ofBlock_92 : decode cX9_ofBlock 92 = .ok (.invokevirtual 218, 3) := by decide +kernel
theorem dX9_ofBlock_95 : decode cX9_ofBlock 95 = .ok (.i2l, 1) := by decide +kernel
theorem dX9_ofBlock_96 : decode cX9_ofBlock 96 = .ok (.lreturn, 1) := by decide +kernel
theorem dX9_ofBlock_97 : decode cX9_ofBlock 97 = .ok (.aload_n 0, 1) := by decide +kernel
theorem dX9_ofBlock_98 : decode cX9_ofBlock 98 = .ok (.getfield 16, 3) := by decide +kernel
theorem dX9_ofBlock_101 : decode cX9_ofBlock 101 = .ok (.iload_n 1, 1) := by decide +kernel
theorem dX9_ofBlock_102 : decode cX9_ofBlock 102 = .ok (.baload, 1) := by decide +kernel
theorem dX9_ofBlock_103 : decode cX9_ofBlock 103 = .ok (.ifCond .ne 16, 3) := by decide +kernel
theorem dX9_ofBlock_106 : decode cX9_ofBlock 106 = .ok (.iload_n 3, 1) := by decide +kernel
theorem dX9_ofBlock_107 : decode cX9_ofBlock 107 = .ok (.iconst 5, 1) := by decide +kernel
theorem dX9_ofBlock_108 : decode cX9_ofBlock 108 = .ok (.if_icmp .ne 9, 3) := by decide +kernel
theorem dX9_ofBlock_111 : decode cX9_ofBlock 111 = .ok (.ldc2_w 189, 3) := by decide +kernel
theorem dX9_ofBlock_114 : decode cX9_ofBlock 114 = .ok (.goto 4, 3) := by decide +kernel
theorem dX9_ofBlock_117 : decode cX9_ofBlock 117 = .ok (.lconst 0, 1) := by decide +kernel
theorem dX9_ofBlock_118 : decode cX9_ofBlock 118 = .ok (.lreturn, 1) := by decide +kernel
theorem dX9_ofBlock_119 : decode cX9_ofBlock 119 = .ok (.iload_n 3, 1) := by decide +kernel
theorem dX9_ofBlock_120 : decode cX9_ofBlock 120 = .ok (.tableswitch 64 4 7 #[32, 40, 48, 56], 32) := by decide +kernel
theorem dX9_ofBlock_152 : decode cX9_ofBlock 152 = .ok (.aload_n 0, 1) := by decide +kernel
theorem dX9_ofBlock_153 : decode cX9_ofBlock 153 = .ok (.getfield 54, 3) := by decide +kernel
theorem dX9_ofBlock_156 : decode cX9_ofBlock 156 = .ok (.iload 4, 2) := by decide +kernel
theorem dX9_ofBlock_158 : decode cX9_ofBlock 158 = .ok (.laload, 1) := by decide +kernel
theorem dX9_ofBlock_159 : decode cX9_ofBlock 159 = .ok (.lreturn, 1) := by decide +kernel
theorem dX9_ofBlock_160 : decode cX9_ofBlock 160 = .ok (.aload_n 0, 1) := by decide +kernel
theorem dX9_ofBlock_161 : decode cX9_ofBlock 161 = .ok (.getfield 57, 3) := by decide +kernel
theorem dX9_ofBlock_164 : decode cX9_ofBlock 164 = .ok (.iload 4, 2) := by decide +kernel
theorem dX9_ofBlock_166 : decode cX9_ofBlock 166 = .ok (.laload, 1) := by decide +kernel
theorem dX9_ofBlock_167 : decode cX9_ofBlock 167 = .ok (.lreturn, 1) := by decide +kernel
theorem dX9_ofBlock_168 : decode cX9_ofBlock 168 = .ok (.aload_n 0, 1) := by decide +kernel
theorem dX9_ofBlock_169 : decode cX9_ofBlock 169 = .ok (.getfield 63, 3) := by decide +kernel
theorem dX9_ofBlock_172 : decode cX9_ofBlock 172 = .ok (.iload 4, 2) := by decide +kernel
theorem dX9_ofBlock_174 : decode cX9_ofBlock 174 = .ok (.laload, 1) := by decide +kernel
theorem dX9_ofBlock_175 : decode cX9_ofBlock 175 = .ok (.lreturn, 1) := by decide +kernel
theorem dX9_ofBlock_176 : decode cX9_ofBlock 176 = .ok (.aload_n 0, 1) := by decide +kernel
theorem dX9_ofBlock_177 : decode cX9_ofBlock 177 = .ok (.getfield 72, 3) := by decide +kernel
theorem dX9_ofBlock_180 : decode cX9_ofBlock 180 = .ok (.iload 4, 2) := by decide +kernel
theorem dX9_ofBlock_182 : decode cX9_ofBlock 182 = .ok (.laload, 1) := by decide +kernel
theorem dX9_ofBlock_183 : decode cX9_ofBlock 183 = .ok (.lreturn, 1) := by decide +kernel
theorem dX9_ofBlock_184 : decode cX9_ofBlock 184 = .ok (.aload_n 0, 1) := by decide +kernel
theorem dX9_ofBlock_185 : decode cX9_ofBlock 185 = .ok (.iload_n 1, 1) := by decide +kernel
theorem dX9_ofBlock_186 : decode cX9_ofBlock 186 = .ok (.iload_n 2, 1) := by decide +kernel
theorem dX9_ofBlock_187 : decode cX9_ofBlock 187 = .ok (.invokevirtual 223, 3) := by decide +kernel
theorem dX9_ofBlock_190 : decode cX9_ofBlock 190 = .ok (.i2l, 1) := by decide +kernel
theorem dX9_ofBlock_191 : decode cX9_ofBlock 191 = .ok (.lreturn, 1) := by decide +kernel
def f_X9_ofBlock (a1 : Int32) (a2 : Int32) (a3 : Int32) (H : Hp) : Option (Int64 × Hp) := hl (sI H 0 0 34 0) (fun (H1 : Hp) => bnd (f_X9_isBlock a1 a2 H1) (fun w3 H2 => if w3 = 0 then bnd (f_X9_fails 1 H2) (fun w29 H28 => some (w29, H28)) else if a3 < 0 then bnd (f_X9_fails 2 H2) (fun w7 H6 => some (w7, H6)) else if a3 ≤ 8 then vl (((20 * a1) + a2)) (fun (v9 : Int32) => if a3 = 0 then gd v9 160 (some ((Int32.toInt64 (gI H2 0 4 (Int32.toNatClampNeg v9))), H2)) else if a3 = 1 then gd v9 160 (some ((Int32.toInt64 (gI H2 0 5 (Int32.toNatClampNeg v9))), H2)) else if a3 = 2 then bnd (f_X9_outs a1 a2 H2) (fun w25 H24 => some ((Int32.toInt64 w25), H24)) else if a3 = 3 then bnd (f_X9_ins a1 a2 H2) (fun w23 H22 => some ((Int32.toInt64 w23), H22)) else gd a1 8 (if (gI H2 0 3 (Int32.toNatClampNeg a1)) = 0 then if a3 = 5 then some ((-1), H2) else some (0, H2) else if a3 = 4 then gd v9 160 (some ((gJ H2 0 15 (Int32.toNatClampNeg v9)), H2)) else (if a3 = 5 then gd v9 160 (some ((gJ H2 0 16 (Int32.toNatClampNeg v9)), H2)) else (if a3 = 6 then gd v9 160 (some ((gJ H2 0 18 (Int32.toNatClampNeg v9)), H2)) else (if a3 = 7 then gd v9 160 (some ((gJ H2 0 21 (Int32.toNatClampNeg v9)), H2)) else (bnd (f_X9_openOf a1 a2 H2) (fun w20 H19 => some ((Int32.toInt64 w20), H19)))))))) else bnd (f_X9_fails 2 H2) (fun w27 H26 => some (w27, H26))))
set_option maxRecDepth 100000 in
set_option maxHeartbeats 4000000 in
theorem s_X9_ofBlock {p : Program} {l : Launch} {e : Env} {s : State} {m : MethodId} {args : Array Value} {below : List Frame} {meth : Method} {c : Code} {A : Nat → Prop} {D : va_G} {K4 : kQ} {ad : Nat → Nat → Nat} {nr : Nat} {a1 : Int32} {a2 : Int32} {a3 : Int32} {H : Hp} {res : Int64 × Hp} (hC : Cx p s m args c A s.heap D K4 5 RX9 cX9_ofBlock) (hret : meth.sig.returnType = (some .long) ∧ meth.locks = false) (h : f_X9_ofBlock a1 a2 a3 H = some res) : V p l e ({ frames := 2, cells := 0, slots := 0, locals := 43 }) s m args below meth c A s.heap (QJ below args s A D K4 ad nr res) D K4 ad nr 5 0 [(0, .ref (ad 0 0)), (1, .int a1), (2, .int a2), (3, .int a3)] [] H := by
  unfold f_X9_ofBlock at h
  refine V_aload_n hC 0 dX9_ofBlock_0 rfl ?_
  refine V_iconst (v := 0) hC dX9_ofBlock_1 (by decide) ?_
  refine V_putI (g := 0) (k := 0) hC 9 34 .int fw_X9_153 rfl rfl rfl rfl rfl dX9_ofBlock_2 ?_
  refine V_hl h (fun H1 h => ?_)
  refine V_aload_n hC 0 dX9_ofBlock_5 rfl ?_
  refine V_iload_n hC 1 dX9_ofBlock_6 rfl ?_
  refine V_iload_n hC 2 dX9_ofBlock_7 rfl ?_
  obtain ⟨w3, H2, hc, h⟩ := bnd_some h
  refine V_calli (g := 0) (k := 0) (As := [.int a1, .int a2]) (st := []) hC (c_X9_isBlock l hc) rfl ml_X9_165 ⟨Nat.le_of_ble_eq_true rfl, Nat.le_of_ble_eq_true rfl⟩ rfl rfl rfl (Nat.le_of_ble_eq_true rfl) dX9_ofBlock_8 ?_
  refine V_if_ne (tgt := 20) hC dX9_ofBlock_11 (by decide) (fun c4 => ?_) (fun c4 => ?_)
  · have h := it_neg c4 h
    refine V_iload_n hC 3 dX9_ofBlock_20 rfl ?_
    refine V_if_lt (tgt := 30) hC dX9_ofBlock_21 (by decide) (fun c5 => ?_) (fun c5 => ?_)
    · have h := it_pos c5 h
      refine V_aload_n hC 0 dX9_ofBlock_30 rfl ?_
      refine V_iconst (v := 2) hC dX9_ofBlock_31 (by decide) ?_
      obtain ⟨w7, H6, hc, h⟩ := bnd_some h
      refine V_calll (g := 0) (k := 0) (As := [.int 2]) (st := []) hC (c_X9_fails l hc) rfl ml_X9_214 ⟨Nat.le_of_ble_eq_true rfl, Nat.le_of_ble_eq_true rfl⟩ rfl rfl rfl (Nat.le_of_ble_eq_true rfl) dX9_ofBlock_32 ?_
      exact V_lret hC hret dX9_ofBlock_35 h
    · have h := it_neg c5 h
      refine V_iload_n hC 3 dX9_ofBlock_24 rfl ?_
      refine V_bipush (v := 8) hC dX9_ofBlock_25 (by decide) ?_
      refine V_icmp_le (tgt := 36) hC dX9_ofBlock_27 (by decide) (fun c8 => ?_) (fun c8 => ?_)
      · have h := it_pos c8 h
        refine V_bipush (v := 20) hC dX9_ofBlock_36 (by decide) ?_
        refine V_iload_n hC 1 dX9_ofBlock_38 rfl ?_
        refine V_imul hC dX9_ofBlock_39 ?_
        refine V_iload_n hC 2 dX9_ofBlock_40 rfl ?_
        refine V_iadd hC dX9_ofBlock_41 ?_
        refine V_vlI h (fun v9 h => ?_)
        refine V_istore (lv' := [(4, .int v9), (0, .ref (ad 0 0)), (1, .int a1), (2, .int a2), (3, .int a3)]) hC dX9_ofBlock_42 (Nat.le_of_ble_eq_true rfl) rfl ?_
        refine V_iload_n hC 4 dX9_ofBlock_44 rfl ?_
        refine V_if_ne (tgt := 57) hC dX9_ofBlock_45 (by decide) (fun c10 => ?_) (fun c10 => ?_)
        · have h := it_neg c10 h
          refine V_iload_n hC 4 dX9_ofBlock_57 rfl ?_
          refine V_iconst (v := 1) hC dX9_ofBlock_58 (by decide) ?_
          refine V_icmp_ne (tgt := 71) hC dX9_ofBlock_59 (by decide) (fun c11 => ?_) (fun c11 => ?_)
          · have h := it_neg c11 h
            refine V_iload_n hC 4 dX9_ofBlock_71 rfl ?_
            refine V_iconst (v := 2) hC dX9_ofBlock_72 (by decide) ?_
            refine V_icmp_ne (tgt := 84) hC dX9_ofBlock_73 (by decide) (fun c12 => ?_) (fun c12 => ?_)
            · have h := it_neg c12 h
              refine V_iload_n hC 4 dX9_ofBlock_84 rfl ?_
              refine V_iconst (v := 3) hC dX9_ofBlock_85 (by decide) ?_
              refine V_icmp_ne (tgt := 97) hC dX9_ofBlock_86 (by decide) (fun c13 => ?_) (fun c13 => ?_)
              · have h := it_neg c13 h
                refine V_aload_n hC 1 dX9_ofBlock_97 rfl ?_
                refine V_getR (g := 0) (k := 0) (g' := 0) (k' := 3) hC 9 3 fl_X9_16 rfl rfl rfl rfl dX9_ofBlock_98 ?_
                refine V_iload_n hC 2 dX9_ofBlock_101 rfl ?_
                obtain ⟨hi, h⟩ := gd_some h
                refine V_zald (g := 0) (k := 3) hC rfl rfl hi dX9_ofBlock_102 ?_
                refine V_if_ne (tgt := 119) hC dX9_ofBlock_103 (by decide) (fun c14 => ?_) (fun c14 => ?_)
                · have h := it_neg c14 h
                  refine V_iload_n hC 4 dX9_ofBlock_119 rfl ?_
                  by_cases c15 : a3 = 4
                  · have h := it_pos c15 h
                    refine V_tabE c15 ?_
                    refine V_tabIn (tgt := 152) hC dX9_ofBlock_120 (by decide) (by decide) rfl (by decide) ?_
                    refine V_aload_n hC 1 dX9_ofBlock_152 rfl ?_
                    refine V_getR (g := 0) (k := 0) (g' := 0) (k' := 15) hC 9 15 fl_X9_54 rfl rfl rfl rfl dX9_ofBlock_153 ?_
                    refine V_iload hC 0 dX9_ofBlock_156 rfl ?_
                    obtain ⟨hi, h⟩ := gd_some h
                    refine V_lald (g := 0) (k := 15) hC rfl rfl hi dX9_ofBlock_158 ?_
                    exact V_lret hC hret dX9_ofBlock_159 h
                  · have h := it_neg c15 h
                    by_cases c16 : a3 = 5
                    · have h := it_pos c16 h
                      refine V_tabE c16 ?_
                      refine V_tabIn (tgt := 160) hC dX9_ofBlock_120 (by decide) (by decide) rfl (by decide) ?_
                      refine V_aload_n hC 1 dX9_ofBlock_160 rfl ?_
                      refine V_getR (g := 0) (k := 0) (g' := 0) (k' := 16) hC 9 16 fl_X9_57 rfl rfl rfl rfl dX9_ofBlock_161 ?_
                      refine V_iload hC 0 dX9_ofBlock_164 rfl ?_
                      obtain ⟨hi, h⟩ := gd_some h
                      refine V_lald (g := 0) (k := 16) hC rfl rfl hi dX9_ofBlock_166 ?_
                      exact V_lret hC hret dX9_ofBlock_167 h
                    · have h := it_neg c16 h
                      by_cases c17 : a3 = 6
                      · have h := it_pos c17 h
                        refine V_tabE c17 ?_
                        refine V_tabIn (tgt := 168) hC dX9_ofBlock_120 (by decide) (by decide) rfl (by decide) ?_
                        refine V_aload_n hC 1 dX9_ofBlock_168 rfl ?_
                        refine V_getR (g := 0) (k := 0) (g' := 0) (k' := 18) hC 9 18 fl_X9_63 rfl rfl rfl rfl dX9_ofBlock_169 ?_
                        refine V_iload hC 0 dX9_ofBlock_172 rfl ?_
                        obtain ⟨hi, h⟩ := gd_some h
                        refine V_lald (g := 0) (k := 18) hC rfl rfl hi dX9_ofBlock_174 ?_
                        exact V_lret hC hret dX9_ofBlock_175 h
                      · have h := it_neg c17 h
                        by_cases c18 : a3 = 7
                        · have h := it_pos c18 h
                          refine V_tabE c18 ?_
                          refine V_tabIn (tgt := 176) hC dX9_ofBlock_120 (by decide) (by decide) rfl (by decide) ?_
                          refine V_aload_n hC 1 dX9_ofBlock_176 rfl ?_
                          refine V_getR (g := 0) (k := 0) (g' := 0) (k' := 21) hC 9 21 fl_X9_72 rfl rfl rfl rfl dX9_ofBlock_177 ?_
                          refine V_iload hC 0 dX9_ofBlock_180 rfl ?_
                          obtain ⟨hi, h⟩ := gd_some h
                          refine V_lald (g := 0) (k := 21) hC rfl rfl hi dX9_ofBlock_182 ?_
                          exact V_lret hC hret dX9_ofBlock_183 h
                        · have h := it_neg c18 h
                          have tc15 : Int32.toInt a3 ≠ (4 : Int) := i32ne c15
                          have tc16 : Int32.toInt a3 ≠ (5 : Int) := i32ne c16
                          have tc17 : Int32.toInt a3 ≠ (6 : Int) := i32ne c17
                          have tc18 : Int32.toInt a3 ≠ (7 : Int) := i32ne c18
                          refine V_tabOut (tgt := 184) hC dX9_ofBlock_120 (by omega) (by decide) ?_
                          refine V_aload_n hC 1 dX9_ofBlock_184 rfl ?_
                          refine V_iload_n hC 2 dX9_ofBlock_185 rfl ?_
                          refine V_iload_n hC 3 dX9_ofBlock_186 rfl ?_
                          obtain ⟨w20, H19, hc, h⟩ := bnd_some h
                          refine V_calli (g := 0) (k := 0) (As := [.int a1, .int a2]) (st := []) hC (c_X9_openOf l hc) rfl ml_X9_223 ⟨Nat.le_of_ble_eq_true rfl, Nat.le_of_ble_eq_true rfl⟩ rfl rfl rfl (Nat.le_of_ble_eq_true rfl) dX9_ofBlock_187 ?_
                          refine V_i2l hC dX9_ofBlock_190 ?_
                          exact V_lret hC hret dX9_ofBlock_191 h
                · have h := it_pos c14 h
                  refine V_iload_n hC 4 dX9_ofBlock_106 rfl ?_
                  refine V_iconst (v := 5) hC dX9_ofBlock_107 (by decide) ?_
                  refine V_icmp_ne (tgt := 117) hC dX9_ofBlock_108 (by decide) (fun c21 => ?_) (fun c21 => ?_)
                  · have h := it_neg c21 h
                    refine V_lconst (v := 0) hC dX9_ofBlock_117 (by decide) ?_
                    exact V_lret hC hret dX9_ofBlock_118 h
                  · have h := it_pos c21 h
                    refine V_ldc2 hC dX9_ofBlock_111 cl_X9_189 ?_
                    refine V_goto (tgt := 118) hC dX9_ofBlock_114 (by decide) ?_
                    exact V_lret hC hret dX9_ofBlock_118 h
              · have h := it_pos c13 h
                refine V_aload_n hC 1 dX9_ofBlock_89 rfl ?_
                refine V_iload_n hC 2 dX9_ofBlock_90 rfl ?_
                refine V_iload_n hC 3 dX9_ofBlock_91 rfl ?_
                obtain ⟨w23, H22, hc, h⟩ := bnd_some h
                refine V_calli (g := 0) (k := 0) (As := [.int a1, .int a2]) (st := []) hC (c_X9_ins l hc) rfl ml_X9_218 ⟨Nat.le_of_ble_eq_true rfl, Nat.le_of_ble_eq_true rfl⟩ rfl rfl rfl (Nat.le_of_ble_eq_true rfl) dX9_ofBlock_92 ?_
                refine V_i2l hC dX9_ofBlock_95 ?_
                exact V_lret hC hret dX9_ofBlock_96 h
            · have h := it_pos c12 h
              refine V_aload_n hC 1 dX9_ofBlock_76 rfl ?_
              refine V_iload_n hC 2 dX9_ofBlock_77 rfl ?_
              refine V_iload_n hC 3 dX9_ofBlock_78 rfl ?_
              obtain ⟨w25, H24, hc, h⟩ := bnd_some h
              refine V_calli (g := 0) (k := 0) (As := [.int a1, .int a2]) (st := []) hC (c_X9_outs l hc) rfl ml_X9_172 ⟨Nat.le_of_ble_eq_true rfl, Nat.le_of_ble_eq_true rfl⟩ rfl rfl rfl (Nat.le_of_ble_eq_true rfl) dX9_ofBlock_79 ?_
              refine V_i2l hC dX9_ofBlock_82 ?_
              exact V_lret hC hret dX9_ofBlock_83 h
          · have h := it_pos c11 h
            refine V_aload_n hC 1 dX9_ofBlock_62 rfl ?_
            refine V_getR (g := 0) (k := 0) (g' := 0) (k' := 5) hC 9 5 fl_X9_23 rfl rfl rfl rfl dX9_ofBlock_63 ?_
            refine V_iload hC 0 dX9_ofBlock_66 rfl ?_
            obtain ⟨hi, h⟩ := gd_some h
            refine V_iald (g := 0) (k := 5) hC rfl rfl hi dX9_ofBlock_68 ?_
            refine V_i2l hC dX9_ofBlock_69 ?_
            exact V_lret hC hret dX9_ofBlock_70 h
        · have h := it_pos c10 h
          refine V_aload_n hC 1 dX9_ofBlock_48 rfl ?_
          refine V_getR (g := 0) (k := 0) (g' := 0) (k' := 4) hC 9 4 fl_X9_20 rfl rfl rfl rfl dX9_ofBlock_49 ?_
          refine V_iload hC 0 dX9_ofBlock_52 rfl ?_
          obtain ⟨hi, h⟩ := gd_some h
          refine V_iald (g := 0) (k := 4) hC rfl rfl hi dX9_ofBlock_54 ?_
          refine V_i2l hC dX9_ofBlock_55 ?_
          exact V_lret hC hret dX9_ofBlock_56 h
      · have h := it_neg c8 h
        refine V_aload_n hC 0 dX9_ofBlock_30 rfl ?_
        refine V_iconst (v := 2) hC dX9_ofBlock_31 (by decide) ?_
        obtain ⟨w27, H26, hc, h⟩ := bnd_some h
        refine V_calll (g := 0) (k := 0) (As := [.int 2]) (st := []) hC (c_X9_fails l hc) rfl ml_X9_214 ⟨Nat.le_of_ble_eq_true rfl, Nat.le_of_ble_eq_true rfl⟩ rfl rfl rfl (Nat.le_of_ble_eq_true rfl) dX9_ofBlock_32 ?_
        exact V_lret hC hret dX9_ofBlock_35 h
  · have h := it_pos c4 h
    refine V_aload_n hC 0 dX9_ofBlock_14 rfl ?_
    refine V_iconst (v := 1) hC dX9_ofBlock_15 (by decide) ?_
    obtain ⟨w29, H28, hc, h⟩ := bnd_some h
    refine V_calll (g := 0) (k := 0) (As := [.int 1]) (st := []) hC (c_X9_fails l hc) rfl ml_X9_214 ⟨Nat.le_of_ble_eq_true rfl, Nat.le_of_ble_eq_true rfl⟩ rfl rfl rfl (Nat.le_of_ble_eq_true rfl) dX9_ofBlock_16 ?_
    exact V_lret hC hret dX9_ofBlock_19 h
theorem c_X9_ofBlock (l : Launch) {nr : Nat} {a1 : Int32} {a2 : Int32} {a3 : Int32} {H : Hp} {x : Int64} {H' : Hp} (h : f_X9_ofBlock a1 a2 a3 H = some (x, H')) : CJ l nr yX9_ofBlock cX9_ofBlock 5 (some .long) 2 43 (fun ad => [.ref (ad 0 0), .int a1, .int a2, .int a3]) H x H' := by
  intro D K4 ad sz
  refine Met.ofV (by decide) (Nat.le_of_ble_eq_true rfl) ?_
  intro p e s m args below meth c hC hret hsz
  subst hsz
  exact s_X9_ofBlock hC hret h
theorem dX9_arc_0 : decode cX9_arc 0 = .ok (.aload_n 0, 1) := by decide +kernel
theorem dX9_arc_1 : decode cX9_arc 1 = .ok (.getfield 111, 3) := by decide +kernel
theorem dX9_arc_4 : decode cX9_arc 4 = .ok (.aload_n 0, 1) := by decide +kernel
theorem dX9_arc_5 : decode cX9_arc 5 = .ok (.getfield 226, 3) := by decide +kernel
theorem dX9_arc_8 : decode cX9_arc 8 = .ok (.iload_n 1, 1) := by decide +kernel
theorem dX9_arc_9 : decode cX9_arc 9 = .ok (.iastore, 1) := by decide +kernel
theorem dX9_arc_10 : decode cX9_arc 10 = .ok (.aload_n 0, 1) := by decide +kernel
theorem dX9_arc_11 : decode cX9_arc 11 = .ok (.getfield 114, 3) := by decide +kernel
theorem dX9_arc_14 : decode cX9_arc 14 = .ok (.aload_n 0, 1) := by decide +kernel
theorem dX9_arc_15 : decode cX9_arc 15 = .ok (.getfield 226, 3) := by decide +kernel
theorem dX9_arc_18 : decode cX9_arc 18 = .ok (.iload_n 2, 1) := by decide +kernel
theorem dX9_arc_19 : decode cX9_arc 19 = .ok (.iastore, 1) := by decide +kernel
theorem dX9_arc_20 : decode cX9_arc 20 = .ok (.aload_n 0, 1) := by decide +kernel
theorem dX9_arc_21 : decode cX9_arc 21 = .ok (.getfield 120, 3) := by decide +kernel
theorem dX9_arc_24 : decode cX9_arc 24 = .ok (.aload_n 0, 1) := by decide +kernel
theorem dX9_arc_25 : decode cX9_arc 25 = .ok (.getfield 226, 3) := by decide +kernel
theorem dX9_arc_28 : decode cX9_arc 28 = .ok (.iconst 0, 1) := by decide +kernel
theorem dX9_arc_29 : decode cX9_arc 29 = .ok (.bastore, 1) := by decide +kernel
theorem dX9_arc_30 : decode cX9_arc 30 = .ok (.aload_n 0, 1) := by decide +kernel
theorem dX9_arc_31 : decode cX9_arc 31 = .ok (.getfield 117, 3) := by decide +kernel
theorem dX9_arc_34 : decode cX9_arc 34 = .ok (.aload_n 0, 1) := by decide +kernel
theorem dX9_arc_35 : decode cX9_arc 35 = .ok (.getfield 226, 3) := by decide +kernel
theorem dX9_arc_38 : decode cX9_arc 38 = .ok (.lconst 0, 1) := by decide +kernel
theorem dX9_arc_39 : decode cX9_arc 39 = .ok (.lastore, 1) := by decide +kernel
theorem dX9_arc_40 : decode cX9_arc 40 = .ok (.aload_n 0, 1) := by decide +kernel
theorem dX9_arc_41 : decode cX9_arc 41 = .ok (.dup, 1) := by decide +kernel
theorem dX9_arc_42 : decode cX9_arc 42 = .ok (.getfield 226, 3) := by decide +kernel
theorem dX9_arc_45 : decode cX9_arc 45 = .ok (.iconst 1, 1) := by decide +kernel
theorem dX9_arc_46 : decode cX9_arc 46 = .ok (.iadd, 1) := by decide +kernel
theorem dX9_arc_47 : decode cX9_arc 47 = .ok (.putfield 226, 3) := by decide +kernel
theorem dX9_arc_50 : decode cX9_arc 50 = .ok (.return_, 1) := by decide +kernel
def f_X9_arc (a1 : Int32) (a2 : Int32) (H : Hp) : Option (Unit × Hp) := gd (gI H 0 0 43) 61 (hl (sI H 0 39 (Int32.toNatClampNeg (gI H 0 0 43)) a1) (fun (H1 : Hp) => gd (gI H1 0 0 43) 61 (hl (sI H1 0 40 (Int32.toNatClampNeg (gI H1 0 0 43)) a2) (fun (H2 : Hp) => gd (gI H2 0 0 43) 61 (hl (sI H2 0 42 (Int32.toNatClampNeg (gI H2 0 0 43)) (vp_nar .boolean 0)) (fun (H3 : Hp) => gd (gI H3 0 0 43) 61 (hl (sJ H3 0 41 (Int32.toNatClampNeg (gI H3 0 0 43)) 0) (fun (H4 : Hp) => hl (sI H4 0 0 43 ((gI H4 0 0 43) + 1)) (fun (H5 : Hp) => some ((), H5))))))))))
set_option maxRecDepth 100000 in
set_option maxHeartbeats 4000000 in
theorem s_X9_arc {p : Program} {l : Launch} {e : Env} {s : State} {m : MethodId} {args : Array Value} {below : List Frame} {meth : Method} {c : Code} {A : Nat → Prop} {D : va_G} {K4 : kQ} {ad : Nat → Nat → Nat} {nr : Nat} {a1 : Int32} {a2 : Int32} {H : Hp} {res : Unit × Hp} (hC : Cx p s m args c A s.heap D K4 3 RX9 cX9_arc) (hret : meth.sig.returnType = none ∧ meth.locks = false) (h : f_X9_arc a1 a2 H = some res) : V p l e ({ frames := 0, cells := 0, slots := 0, locals := 0 }) s m args below meth c A s.heap (QU below args s A D K4 ad nr res) D K4 ad nr 3 0 [(0, .ref (ad 0 0)), (1, .int a1), (2, .int a2)] [] H := by
  unfold f_X9_arc at h
  refine V_aload_n hC 0 dX9_arc_0 rfl ?_
  refine V_getR (g := 0) (k := 0) (g' := 0) (k' := 39) hC 9 39 fl_X9_111 rfl rfl rfl rfl dX9_arc_1 ?_
  refine V_aload_n hC 0 dX9_arc_4 rfl ?_
  refine V_getI (g := 0) (k := 0) hC 9 43 fl_X9_226 rfl rfl rfl dX9_arc_5 ?_
  refine V_iload_n hC 1 dX9_arc_8 rfl ?_
  obtain ⟨hi, h⟩ := gd_some h
  refine V_iast (g := 0) (k := 39) hC rfl rfl hi dX9_arc_9 ?_
  refine V_hl h (fun H1 h => ?_)
  refine V_aload_n hC 0 dX9_arc_10 rfl ?_
  refine V_getR (g := 0) (k := 0) (g' := 0) (k' := 40) hC 9 40 fl_X9_114 rfl rfl rfl rfl dX9_arc_11 ?_
  refine V_aload_n hC 0 dX9_arc_14 rfl ?_
  refine V_getI (g := 0) (k := 0) hC 9 43 fl_X9_226 rfl rfl rfl dX9_arc_15 ?_
  refine V_iload_n hC 2 dX9_arc_18 rfl ?_
  obtain ⟨hi, h⟩ := gd_some h
  refine V_iast (g := 0) (k := 40) hC rfl rfl hi dX9_arc_19 ?_
  refine V_hl h (fun H2 h => ?_)
  refine V_aload_n hC 0 dX9_arc_20 rfl ?_
  refine V_getR (g := 0) (k := 0) (g' := 0) (k' := 42) hC 9 42 fl_X9_120 rfl rfl rfl rfl dX9_arc_21 ?_
  refine V_aload_n hC 0 dX9_arc_24 rfl ?_
  refine V_getI (g := 0) (k := 0) hC 9 43 fl_X9_226 rfl rfl rfl dX9_arc_25 ?_
  refine V_iconst (v := 0) hC dX9_arc_28 (by decide) ?_
  obtain ⟨hi, h⟩ := gd_some h
  refine V_zast (g := 0) (k := 42) hC rfl rfl hi dX9_arc_29 ?_
  refine V_hl h (fun H3 h => ?_)
  refine V_aload_n hC 0 dX9_arc_30 rfl ?_
  refine V_getR (g := 0) (k := 0) (g' := 0) (k' := 41) hC 9 41 fl_X9_117 rfl rfl rfl rfl dX9_arc_31 ?_
  refine V_aload_n hC 0 dX9_arc_34 rfl ?_
  refine V_getI (g := 0) (k := 0) hC 9 43 fl_X9_226 rfl rfl rfl dX9_arc_35 ?_
  refine V_lconst (v := 0) hC dX9_arc_38 (by decide) ?_
  obtain ⟨hi, h⟩ := gd_some h
  refine V_last (g := 0) (k := 41) hC rfl rfl hi dX9_arc_39 ?_
  refine V_hl h (fun H4 h => ?_)
  refine V_aload_n hC 0 dX9_arc_40 rfl ?_
  refine V_dup hC dX9_arc_41 rfl ?_
  refine V_getI (g := 0) (k := 0) hC 9 43 fl_X9_226 rfl rfl rfl dX9_arc_42 ?_
  refine V_iconst (v := 1) hC dX9_arc_45 (by decide) ?_
  refine V_iadd hC dX9_arc_46 ?_
  refine V_putI (g := 0) (k := 0) hC 9 43 .int fw_X9_226 rfl rfl rfl rfl rfl dX9_arc_47 ?_
  refine V_hl h (fun H5 h => ?_)
  exact V_vret hC hret dX9_arc_50 h
theorem c_X9_arc (l : Launch) {nr : Nat} {a1 : Int32} {a2 : Int32} {H : Hp} {x : Unit} {H' : Hp} (h : f_X9_arc a1 a2 H = some (x, H')) : CU l nr yX9_arc cX9_arc 3 none 0 0 (fun ad => [.ref (ad 0 0), .int a1, .int a2]) H x H' := by
  intro D K4 ad sz
  refine Met.ofV (by decide) (Nat.le_of_ble_eq_true rfl) ?_
  intro p e s m args below meth c hC hret hsz
  subst hsz
  exact s_X9_arc hC hret h
theorem dX9_lay_0 : decode cX9_lay 0 = .ok (.aload_n 0, 1) := by decide +kernel
theorem dX9_lay_1 : decode cX9_lay 1 = .ok (.aload_n 0, 1) := by decide +kernel
theorem dX9_lay_2 : decode cX9_lay 2 = .ok (.getfield 13, 3) := by decide +kernel
theorem dX9_lay_5 : decode cX9_lay 5 = .ok (.iload_n 1, 1) := by decide +kernel
theorem dX9_lay_6 : decode cX9_lay 6 = .ok (.iaload, 1) := by decide +kernel
theorem dX9_lay_7 : decode cX9_lay 7 = .ok (.putfield 226, 3) := by decide +kernel
theorem dX9_lay_10 : decode cX9_lay 10 = .ok (.iconst 0, 1) := by decide +kernel
theorem dX9_lay_11 : decode cX9_lay 11 = .ok (.istore_n 2, 1) := by decide +kernel
theorem dX9_lay_12 : decode cX9_lay 12 = .ok (.iload_n 2, 1) := by decide +kernel
theorem dX9_lay_13 : decode cX9_lay 13 = .ok (.aload_n 0, 1) := by decide +kernel
theorem dX9_lay_14 : decode cX9_lay 14 = .ok (.getfield 13, 3) := by decide +kernel
theorem dX9_lay_17 : decode cX9_lay 17 = .ok (.iload_n 1, 1) := by decide +kernel
theorem dX9_lay_18 : decode cX9_lay 18 = .ok (.iaload, 1) := by decide +kernel
theorem dX9_lay_19 : decode cX9_lay 19 = .ok (.if_icmp .ge 77, 3) := by decide +kernel
theorem dX9_lay_22 : decode cX9_lay 22 = .ok (.aload_n 0, 1) := by decide +kernel
theorem dX9_lay_23 : decode cX9_lay 23 = .ok (.getfield 111, 3) := by decide +kernel
theorem dX9_lay_26 : decode cX9_lay 26 = .ok (.iload_n 2, 1) := by decide +kernel
theorem dX9_lay_27 : decode cX9_lay 27 = .ok (.aload_n 0, 1) := by decide +kernel
theorem dX9_lay_28 : decode cX9_lay 28 = .ok (.getfield 26, 3) := by decide +kernel
theorem dX9_lay_31 : decode cX9_lay 31 = .ok (.bipush 40, 2) := by decide +kernel
theorem dX9_lay_33 : decode cX9_lay 33 = .ok (.iload_n 1, 1) := by decide +kernel
theorem dX9_lay_34 : decode cX9_lay 34 = .ok (.imul, 1) := by decide +kernel
theorem dX9_lay_35 : decode cX9_lay 35 = .ok (.iload_n 2, 1) := by decide +kernel
theorem dX9_lay_36 : decode cX9_lay 36 = .ok (.iadd, 1) := by decide +kernel
theorem dX9_lay_37 : decode cX9_lay 37 = .ok (.iaload, 1) := by decide +kernel
theorem dX9_lay_38 : decode cX9_lay 38 = .ok (.iastore, 1) := by decide +kernel
theorem dX9_lay_39 : decode cX9_lay 39 = .ok (.aload_n 0, 1) := by decide +kernel
theorem dX9_lay_40 : decode cX9_lay 40 = .ok (.getfield 114, 3) := by decide +kernel
theorem dX9_lay_43 : decode cX9_lay 43 = .ok (.iload_n 2, 1) := by decide +kernel
theorem dX9_lay_44 : decode cX9_lay 44 = .ok (.aload_n 0, 1) := by decide +kernel
theorem dX9_lay_45 : decode cX9_lay 45 = .ok (.getfield 29, 3) := by decide +kernel
theorem dX9_lay_48 : decode cX9_lay 48 = .ok (.bipush 40, 2) := by decide +kernel
theorem dX9_lay_50 : decode cX9_lay 50 = .ok (.iload_n 1, 1) := by decide +kernel
theorem dX9_lay_51 : decode cX9_lay 51 = .ok (.imul, 1) := by decide +kernel
theorem dX9_lay_52 : decode cX9_lay 52 = .ok (.iload_n 2, 1) := by decide +kernel
theorem dX9_lay_53 : decode cX9_lay 53 = .ok (.iadd, 1) := by decide +kernel
theorem dX9_lay_54 : decode cX9_lay 54 = .ok (.iaload, 1) := by decide +kernel
theorem dX9_lay_55 : decode cX9_lay 55 = .ok (.iastore, 1) := by decide +kernel
theorem dX9_lay_56 : decode cX9_lay 56 = .ok (.aload_n 0, 1) := by decide +kernel
theorem dX9_lay_57 : decode cX9_lay 57 = .ok (.getfield 120, 3) := by decide +kernel
theorem dX9_lay_60 : decode cX9_lay 60 = .ok (.iload_n 2, 1) := by decide +kernel
theorem dX9_lay_61 : decode cX9_lay 61 = .ok (.aload_n 0, 1) := by decide +kernel
theorem dX9_lay_62 : decode cX9_lay 62 = .ok (.getfield 41, 3) := by decide +kernel
theorem dX9_lay_65 : decode cX9_lay 65 = .ok (.bipush 40, 2) := by decide +kernel
theorem dX9_lay_67 : decode cX9_lay 67 = .ok (.iload_n 1, 1) := by decide +kernel
theorem dX9_lay_68 : decode cX9_lay 68 = .ok (.imul, 1) := by decide +kernel
theorem dX9_lay_69 : decode cX9_lay 69 = .ok (.iload_n 2, 1) := by decide +kernel
theorem dX9_lay_70 : decode cX9_lay 70 = .ok (.iadd, 1) := by decide +kernel
theorem dX9_lay_71 : decode cX9_lay 71 = .ok (.baload, 1) := by decide +kernel
theorem dX9_lay_72 : decode cX9_lay 72 = .ok (.bastore, 1) := by decide +kernel
theorem dX9_lay_73 : decode cX9_lay 73 = .ok (.aload_n 0, 1) := by decide +kernel
theorem dX9_lay_74 : decode cX9_lay 74 = .ok (.getfield 117, 3) := by decide +kernel
theorem dX9_lay_77 : decode cX9_lay 77 = .ok (.iload_n 2, 1) := by decide +kernel
theorem dX9_lay_78 : decode cX9_lay 78 = .ok (.aload_n 0, 1) := by decide +kernel
theorem dX9_lay_79 : decode cX9_lay 79 = .ok (.getfield 78, 3) := by decide +kernel
theorem dX9_lay_82 : decode cX9_lay 82 = .ok (.bipush 40, 2) := by decide +kernel
theorem dX9_lay_84 : decode cX9_lay 84 = .ok (.iload_n 1, 1) := by decide +kernel
theorem dX9_lay_85 : decode cX9_lay 85 = .ok (.imul, 1) := by decide +kernel
theorem dX9_lay_86 : decode cX9_lay 86 = .ok (.iload_n 2, 1) := by decide +kernel
theorem dX9_lay_87 : decode cX9_lay 87 = .ok (.iadd, 1) := by decide +kernel
theorem dX9_lay_88 : decode cX9_lay 88 = .ok (.laload, 1) := by decide +kernel
theorem dX9_lay_89 : decode cX9_lay 89 = .ok (.lastore, 1) := by decide +kernel
theorem dX9_lay_90 : decode cX9_lay 90 = .ok (.iinc 2 1, 3) := by decide +kernel
theorem dX9_lay_93 : decode cX9_lay 93 = .ok (.goto (-81), 3) := by decide +kernel
theorem dX9_lay_96 : decode cX9_lay 96 = .ok (.iconst 0, 1) := by decide +kernel
theorem dX9_lay_97 : decode cX9_lay 97 = .ok (.istore_n 2, 1) := by decide +kernel
theorem dX9_lay_98 : decode cX9_lay 98 = .ok (.iload_n 2, 1) := by decide +kernel
theorem dX9_lay_99 : decode cX9_lay 99 = .ok (.aload_n 0, 1) := by decide +kernel
theorem dX9_lay_100 : decode cX9_lay 100 = .ok (.getfield 7, 3) := by decide +kernel
theorem dX9_lay_103 : decode cX9_lay 103 = .ok (.iload_n 1, 1) := by decide +kernel
theorem dX9_lay_104 : decode cX9_lay 104 = .ok (.iaload, 1) := by decide +kernel
theorem dX9_lay_105 : decode cX9_lay 105 = .ok (.if_icmp .ge 31, 3) := by decide +kernel
theorem dX9_lay_108 : decode cX9_lay 108 = .ok (.aload_n 0, 1) := by decide +kernel
theorem dX9_lay_109 : decode cX9_lay 109 = .ok (.getfield 20, 3) := by decide +kernel
theorem dX9_lay_112 : decode cX9_lay 112 = .ok (.bipush 20, 2) := by decide +kernel
theorem dX9_lay_114 : decode cX9_lay 114 = .ok (.iload_n 1, 1) := by decide +kernel
theorem dX9_lay_115 : decode cX9_lay 115 = .ok (.imul, 1) := by decide +kernel
theorem dX9_lay_116 : decode cX9_lay 116 = .ok (.iload_n 2, 1) := by decide +kernel
theorem dX9_lay_117 : decode cX9_lay 117 = .ok (.iadd, 1) := by decide +kernel
theorem dX9_lay_118 : decode cX9_lay 118 = .ok (.iaload, 1) := by decide +kernel
theorem dX9_lay_119 : decode cX9_lay 119 = .ok (.iconst 3, 1) := by decide +kernel
theorem dX9_lay_120 : decode cX9_lay 120 = .ok (.if_icmp .ne 10, 3) := by decide +kernel
theorem dX9_lay_123 : decode cX9_lay 123 = .ok (.aload_n 0, 1) := by decide +kernel
theorem dX9_lay_124 : decode cX9_lay 124 = .ok (.iload_n 2, 1) := by decide +kernel
theorem dX9_lay_125 : decode cX9_lay 125 = .ok (.bipush 20, 2) := by decide +kernel
theorem dX9_lay_127 : decode cX9_lay 127 = .ok (.invokevirtual 229, 3) := by decide +kernel
theorem dX9_lay_130 : decode cX9_lay 130 = .ok (.iinc 2 1, 3) := by decide +kernel
theorem dX9_lay_133 : decode cX9_lay 133 = .ok (.goto (-35), 3) := by decide +kernel
theorem dX9_lay_136 : decode cX9_lay 136 = .ok (.aload_n 0, 1) := by decide +kernel
theorem dX9_lay_137 : decode cX9_lay 137 = .ok (.bipush 20, 2) := by decide +kernel
theorem dX9_lay_139 : decode cX9_lay 139 = .ok (.iconst 0, 1) := by decide +kernel
theorem dX9_lay_140 : decode cX9_lay 140 = .ok (.invokevirtual 229, 3) := by decide +kernel
theorem dX9_lay_143 : decode cX9_lay 143 = .ok (.return_, 1) := by decide +kernel
def L_X9_lay_12 (b1 : Int32) (k : Hp → Option (Unit × Hp)) : Nat → Int32 → Hp → Option (Unit × Hp)
  | 0, _, _ => none
  | n + 1, x2, H => gd b1 8 (if (gI H 0 2 (Int32.toNatClampNeg b1)) ≤ x2 then k H else gd ((40 * b1) + x2) 320 (gd x2 61 (hl (sI H 0 39 (Int32.toNatClampNeg x2) (gI H 0 6 (Int32.toNatClampNeg ((40 * b1) + x2)))) (fun (H3 : Hp) => gd ((40 * b1) + x2) 320 (gd x2 61 (hl (sI H3 0 40 (Int32.toNatClampNeg x2) (gI H3 0 7 (Int32.toNatClampNeg ((40 * b1) + x2)))) (fun (H4 : Hp) => gd ((40 * b1) + x2) 320 (gd x2 61 (hl (sI H4 0 42 (Int32.toNatClampNeg x2) (vp_nar .boolean (gI H4 0 11 (Int32.toNatClampNeg ((40 * b1) + x2))))) (fun (H5 : Hp) => gd ((40 * b1) + x2) 320 (gd x2 61 (hl (sJ H5 0 41 (Int32.toNatClampNeg x2) (gJ H5 0 23 (Int32.toNatClampNeg ((40 * b1) + x2)))) (fun (H6 : Hp) => vl (x2 + (1 : Int32)) (fun (v7 : Int32) => L_X9_lay_12 b1 k n v7 H6))))))))))))))
set_option maxRecDepth 100000 in
set_option maxHeartbeats 4000000 in
theorem sL_X9_lay_12 {p : Program} {l : Launch} {e : Env} {s : State} {m : MethodId} {args : Array Value} {below : List Frame} {meth : Method} {c : Code} {A : Nat → Prop} {D : va_G} {K4 : kQ} {ad : Nat → Nat → Nat} {nr : Nat} {b1 : Int32} {k : Hp → Option (Unit × Hp)} {res : Unit × Hp} (hC : Cx p s m args c A s.heap D K4 3 RX9 cX9_lay) (hret : meth.sig.returnType = none ∧ meth.locks = false) (hk : ∀ (H : Hp), k H = some res → V p l e ({ frames := 1, cells := 0, slots := 0, locals := 22 }) s m args below meth c A s.heap (QU below args s A D K4 ad nr res) D K4 ad nr 3 96 [(0, .ref (ad 0 0)), (1, .int b1)] [] H) : ∀ (n : Nat) (x2 : Int32) (H : Hp), L_X9_lay_12 b1 k n x2 H = some res → V p l e ({ frames := 1, cells := 0, slots := 0, locals := 22 }) s m args below meth c A s.heap (QU below args s A D K4 ad nr res) D K4 ad nr 3 12 [(0, .ref (ad 0 0)), (1, .int b1), (2, .int x2)] [] H := by
  intro n
  induction n with
  | zero => intro x2 H h; exact nomatch (show (none : Option (Unit × Hp)) = some res from h)
  | succ n ih =>
    intro x2 H h
    rw [L_X9_lay_12] at h
    refine V_iload_n hC 2 dX9_lay_12 rfl ?_
    refine V_aload_n hC 0 dX9_lay_13 rfl ?_
    refine V_getR (g := 0) (k := 0) (g' := 0) (k' := 2) hC 9 2 fl_X9_13 rfl rfl rfl rfl dX9_lay_14 ?_
    refine V_iload_n hC 1 dX9_lay_17 rfl ?_
    obtain ⟨hi, h⟩ := gd_some h
    refine V_iald (g := 0) (k := 2) hC rfl rfl hi dX9_lay_18 ?_
    refine V_icmp_ge (tgt := 96) hC dX9_lay_19 (by decide) (fun c2 => ?_) (fun c2 => ?_)
    · have h := it_pos c2 h
      refine V_lv (lv' := [(0, .ref (ad 0 0)), (1, .int b1)]) [0, 1] rfl ?_
      exact hk H h
    · have h := it_neg c2 h
      refine V_aload_n hC 0 dX9_lay_22 rfl ?_
      refine V_getR (g := 0) (k := 0) (g' := 0) (k' := 39) hC 9 39 fl_X9_111 rfl rfl rfl rfl dX9_lay_23 ?_
      refine V_iload_n hC 2 dX9_lay_26 rfl ?_
      refine V_aload_n hC 0 dX9_lay_27 rfl ?_
      refine V_getR (g := 0) (k := 0) (g' := 0) (k' := 6) hC 9 6 fl_X9_26 rfl rfl rfl rfl dX9_lay_28 ?_
      refine V_bipush (v := 40) hC dX9_lay_31 (by decide) ?_
      refine V_iload_n hC 1 dX9_lay_33 rfl ?_
      refine V_imul hC dX9_lay_34 ?_
      refine V_iload_n hC 2 dX9_lay_35 rfl ?_
      refine V_iadd hC dX9_lay_36 ?_
      obtain ⟨hi, h⟩ := gd_some h
      refine V_iald (g := 0) (k := 6) hC rfl rfl hi dX9_lay_37 ?_
      obtain ⟨hi, h⟩ := gd_some h
      refine V_iast (g := 0) (k := 39) hC rfl rfl hi dX9_lay_38 ?_
      refine V_hl h (fun H3 h => ?_)
      refine V_aload_n hC 0 dX9_lay_39 rfl ?_
      refine V_getR (g := 0) (k := 0) (g' := 0) (k' := 40) hC 9 40 fl_X9_114 rfl rfl rfl rfl dX9_lay_40 ?_
      refine V_iload_n hC 2 dX9_lay_43 rfl ?_
      refine V_aload_n hC 0 dX9_lay_44 rfl ?_
      refine V_getR (g := 0) (k := 0) (g' := 0) (k' := 7) hC 9 7 fl_X9_29 rfl rfl rfl rfl dX9_lay_45 ?_
      refine V_bipush (v := 40) hC dX9_lay_48 (by decide) ?_
      refine V_iload_n hC 1 dX9_lay_50 rfl ?_
      refine V_imul hC dX9_lay_51 ?_
      refine V_iload_n hC 2 dX9_lay_52 rfl ?_
      refine V_iadd hC dX9_lay_53 ?_
      obtain ⟨hi, h⟩ := gd_some h
      refine V_iald (g := 0) (k := 7) hC rfl rfl hi dX9_lay_54 ?_
      obtain ⟨hi, h⟩ := gd_some h
      refine V_iast (g := 0) (k := 40) hC rfl rfl hi dX9_lay_55 ?_
      refine V_hl h (fun H4 h => ?_)
      refine V_aload_n hC 0 dX9_lay_56 rfl ?_
      refine V_getR (g := 0) (k := 0) (g' := 0) (k' := 42) hC 9 42 fl_X9_120 rfl rfl rfl rfl dX9_lay_57 ?_
      refine V_iload_n hC 2 dX9_lay_60 rfl ?_
      refine V_aload_n hC 0 dX9_lay_61 rfl ?_
      refine V_getR (g := 0) (k := 0) (g' := 0) (k' := 11) hC 9 11 fl_X9_41 rfl rfl rfl rfl dX9_lay_62 ?_
      refine V_bipush (v := 40) hC dX9_lay_65 (by decide) ?_
      refine V_iload_n hC 1 dX9_lay_67 rfl ?_
      refine V_imul hC dX9_lay_68 ?_
      refine V_iload_n hC 2 dX9_lay_69 rfl ?_
      refine V_iadd hC dX9_lay_70 ?_
      obtain ⟨hi, h⟩ := gd_some h
      refine V_zald (g := 0) (k := 11) hC rfl rfl hi dX9_lay_71 ?_
      obtain ⟨hi, h⟩ := gd_some h
      refine V_zast (g := 0) (k := 42) hC rfl rfl hi dX9_lay_72 ?_
      refine V_hl h (fun H5 h => ?_)
      refine V_aload_n hC 0 dX9_lay_73 rfl ?_
      refine V_getR (g := 0) (k := 0) (g' := 0) (k' := 41) hC 9 41 fl_X9_117 rfl rfl rfl rfl dX9_lay_74 ?_
      refine V_iload_n hC 2 dX9_lay_77 rfl ?_
      refine V_aload_n hC 0 dX9_lay_78 rfl ?_
      refine V_getR (g := 0) (k := 0) (g' := 0) (k' := 23) hC 9 23 fl_X9_78 rfl rfl rfl rfl dX9_lay_79 ?_
      refine V_bipush (v := 40) hC dX9_lay_82 (by decide) ?_
      refine V_iload_n hC 1 dX9_lay_84 rfl ?_
      refine V_imul hC dX9_lay_85 ?_
      refine V_iload_n hC 2 dX9_lay_86 rfl ?_
      refine V_iadd hC dX9_lay_87 ?_
      obtain ⟨hi, h⟩ := gd_some h
      refine V_lald (g := 0) (k := 23) hC rfl rfl hi dX9_lay_88 ?_
      obtain ⟨hi, h⟩ := gd_some h
      refine V_last (g := 0) (k := 41) hC rfl rfl hi dX9_lay_89 ?_
      refine V_hl h (fun H6 h => ?_)
      refine V_vi h (fun v7 hvv7 h => ?_)
      refine V_iinc (v := v7) (lv' := [(2, .int v7), (0, .ref (ad 0 0)), (1, .int b1)]) hC 2 dX9_lay_90 rfl hvv7.symm (Nat.le_of_ble_eq_true rfl) rfl ?_
      refine V_goto (tgt := 12) hC dX9_lay_93 (by decide) ?_
      refine V_lv (lv' := [(0, .ref (ad 0 0)), (1, .int b1), (2, .int v7)]) [1, 2, 0] rfl ?_
      exact ih v7 H6 h
def L_X9_lay_98 (b1 : Int32) (k : Hp → Option (Unit × Hp)) : Nat → Int32 → Hp → Option (Unit × Hp)
  | 0, _, _ => none
  | n + 1, x2, H => gd b1 8 (if (gI H 0 1 (Int32.toNatClampNeg b1)) ≤ x2 then k H else gd ((20 * b1) + x2) 160 (if (gI H 0 4 (Int32.toNatClampNeg ((20 * b1) + x2))) = 3 then bnd (f_X9_arc x2 20 H) (fun w13 H12 => vl (x2 + (1 : Int32)) (fun (v14 : Int32) => L_X9_lay_98 b1 k n v14 H12)) else vl (x2 + (1 : Int32)) (fun (v11 : Int32) => L_X9_lay_98 b1 k n v11 H)))
set_option maxRecDepth 100000 in
set_option maxHeartbeats 4000000 in
theorem sL_X9_lay_98 {p : Program} {l : Launch} {e : Env} {s : State} {m : MethodId} {args : Array Value} {below : List Frame} {meth : Method} {c : Code} {A : Nat → Prop} {D : va_G} {K4 : kQ} {ad : Nat → Nat → Nat} {nr : Nat} {b1 : Int32} {k : Hp → Option (Unit × Hp)} {res : Unit × Hp} (hC : Cx p s m args c A s.heap D K4 3 RX9 cX9_lay) (hret : meth.sig.returnType = none ∧ meth.locks = false) (hk : ∀ (H : Hp), k H = some res → V p l e ({ frames := 1, cells := 0, slots := 0, locals := 22 }) s m args below meth c A s.heap (QU below args s A D K4 ad nr res) D K4 ad nr 3 136 [(0, .ref (ad 0 0))] [] H) : ∀ (n : Nat) (x2 : Int32) (H : Hp), L_X9_lay_98 b1 k n x2 H = some res → V p l e ({ frames := 1, cells := 0, slots := 0, locals := 22 }) s m args below meth c A s.heap (QU below args s A D K4 ad nr res) D K4 ad nr 3 98 [(0, .ref (ad 0 0)), (1, .int b1), (2, .int x2)] [] H := by
  intro n
  induction n with
  | zero => intro x2 H h; exact nomatch (show (none : Option (Unit × Hp)) = some res from h)
  | succ n ih =>
    intro x2 H h
    rw [L_X9_lay_98] at h
    refine V_iload_n hC 2 dX9_lay_98 rfl ?_
    refine V_aload_n hC 0 dX9_lay_99 rfl ?_
    refine V_getR (g := 0) (k := 0) (g' := 0) (k' := 1) hC 9 1 fl_X9_7 rfl rfl rfl rfl dX9_lay_100 ?_
    refine V_iload_n hC 1 dX9_lay_103 rfl ?_
    obtain ⟨hi, h⟩ := gd_some h
    refine V_iald (g := 0) (k := 1) hC rfl rfl hi dX9_lay_104 ?_
    refine V_icmp_ge (tgt := 136) hC dX9_lay_105 (by decide) (fun c9 => ?_) (fun c9 => ?_)
    · have h := it_pos c9 h
      refine V_lv (lv' := [(0, .ref (ad 0 0))]) [0] rfl ?_
      exact hk H h
    · have h := it_neg c9 h
      refine V_aload_n hC 0 dX9_lay_108 rfl ?_
      refine V_getR (g := 0) (k := 0) (g' := 0) (k' := 4) hC 9 4 fl_X9_20 rfl rfl rfl rfl dX9_lay_109 ?_
      refine V_bipush (v := 20) hC dX9_lay_112 (by decide) ?_
      refine V_iload_n hC 1 dX9_lay_114 rfl ?_
      refine V_imul hC dX9_lay_115 ?_
      refine V_iload_n hC 2 dX9_lay_116 rfl ?_
      refine V_iadd hC dX9_lay_117 ?_
      obtain ⟨hi, h⟩ := gd_some h
      refine V_iald (g := 0) (k := 4) hC rfl rfl hi dX9_lay_118 ?_
      refine V_iconst (v := 3) hC dX9_lay_119 (by decide) ?_
      refine V_icmp_ne (tgt := 130) hC dX9_lay_120 (by decide) (fun c10 => ?_) (fun c10 => ?_)
      · have h := it_neg c10 h
        refine V_vi h (fun v11 hvv11 h => ?_)
        refine V_iinc (v := v11) (lv' := [(2, .int v11), (0, .ref (ad 0 0)), (1, .int b1)]) hC 2 dX9_lay_130 rfl hvv11.symm (Nat.le_of_ble_eq_true rfl) rfl ?_
        refine V_goto (tgt := 98) hC dX9_lay_133 (by decide) ?_
        refine V_lv (lv' := [(0, .ref (ad 0 0)), (1, .int b1), (2, .int v11)]) [1, 2, 0] rfl ?_
        exact ih v11 H h
      · have h := it_pos c10 h
        refine V_aload_n hC 0 dX9_lay_123 rfl ?_
        refine V_iload_n hC 2 dX9_lay_124 rfl ?_
        refine V_bipush (v := 20) hC dX9_lay_125 (by decide) ?_
        obtain ⟨w13, H12, hc, h⟩ := bnd_some h
        refine V_callu (g := 0) (k := 0) (As := [.int x2, .int 20]) (st := []) hC (c_X9_arc l hc) rfl ml_X9_229 ⟨Nat.le_of_ble_eq_true rfl, Nat.le_of_ble_eq_true rfl⟩ rfl rfl rfl (Nat.le_of_ble_eq_true rfl) dX9_lay_127 ?_
        refine V_vi h (fun v14 hvv14 h => ?_)
        refine V_iinc (v := v14) (lv' := [(2, .int v14), (0, .ref (ad 0 0)), (1, .int b1)]) hC 2 dX9_lay_130 rfl hvv14.symm (Nat.le_of_ble_eq_true rfl) rfl ?_
        refine V_goto (tgt := 98) hC dX9_lay_133 (by decide) ?_
        refine V_lv (lv' := [(0, .ref (ad 0 0)), (1, .int b1), (2, .int v14)]) [1, 2, 0] rfl ?_
        exact ih v14 H12 h
def f_X9_lay (a1 : Int32) (H : Hp) : Option (Unit × Hp) := gd a1 8 (hl (sI H 0 0 43 (gI H 0 2 (Int32.toNatClampNeg a1))) (fun (H1 : Hp) => L_X9_lay_12 a1 (fun (H8 : Hp) => L_X9_lay_98 a1 (fun (H15 : Hp) => bnd (f_X9_arc 20 0 H15) (fun w17 H16 => some ((), H16))) FU 0 H8) FU 0 H1))
set_option maxRecDepth 100000 in
set_option maxHeartbeats 4000000 in
theorem s_X9_lay {p : Program} {l : Launch} {e : Env} {s : State} {m : MethodId} {args : Array Value} {below : List Frame} {meth : Method} {c : Code} {A : Nat → Prop} {D : va_G} {K4 : kQ} {ad : Nat → Nat → Nat} {nr : Nat} {a1 : Int32} {H : Hp} {res : Unit × Hp} (hC : Cx p s m args c A s.heap D K4 3 RX9 cX9_lay) (hret : meth.sig.returnType = none ∧ meth.locks = false) (h : f_X9_lay a1 H = some res) : V p l e ({ frames := 1, cells := 0, slots := 0, locals := 22 }) s m args below meth c A s.heap (QU below args s A D K4 ad nr res) D K4 ad nr 3 0 [(0, .ref (ad 0 0)), (1, .int a1)] [] H := by
  unfold f_X9_lay at h
  refine V_aload_n hC 0 dX9_lay_0 rfl ?_
  refine V_aload_n hC 0 dX9_lay_1 rfl ?_
  refine V_getR (g := 0) (k := 0) (g' := 0) (k' := 2) hC 9 2 fl_X9_13 rfl rfl rfl rfl dX9_lay_2 ?_
  refine V_iload_n hC 1 dX9_lay_5 rfl ?_
  obtain ⟨hi, h⟩ := gd_some h
  refine V_iald (g := 0) (k := 2) hC rfl rfl hi dX9_lay_6 ?_
  refine V_putI (g := 0) (k := 0) hC 9 43 .int fw_X9_226 rfl rfl rfl rfl rfl dX9_lay_7 ?_
  refine V_hl h (fun H1 h => ?_)
  refine V_iconst (v := 0) hC dX9_lay_10 (by decide) ?_
  refine V_istore_n (lv' := [(2, .int 0), (0, .ref (ad 0 0)), (1, .int a1)]) hC dX9_lay_11 (Nat.le_of_ble_eq_true rfl) rfl ?_
  refine V_lv (lv' := [(0, .ref (ad 0 0)), (1, .int a1), (2, .int 0)]) [1, 2, 0] rfl ?_
  refine sL_X9_lay_12 hC hret (fun H8 h => ?_) _ 0 H1 h
  refine V_iconst (v := 0) hC dX9_lay_96 (by decide) ?_
  refine V_istore_n (lv' := [(2, .int 0), (0, .ref (ad 0 0)), (1, .int a1)]) hC dX9_lay_97 (Nat.le_of_ble_eq_true rfl) rfl ?_
  refine V_lv (lv' := [(0, .ref (ad 0 0)), (1, .int a1), (2, .int 0)]) [1, 2, 0] rfl ?_
  refine sL_X9_lay_98 hC hret (fun H15 h => ?_) _ 0 H8 h
  refine V_aload_n hC 0 dX9_lay_136 rfl ?_
  refine V_bipush (v := 20) hC dX9_lay_137 (by decide) ?_
  refine V_iconst (v := 0) hC dX9_lay_139 (by decide) ?_
  obtain ⟨w17, H16, hc, h⟩ := bnd_some h
  refine V_callu (g := 0) (k := 0) (As := [.int 20, .int 0]) (st := []) hC (c_X9_arc l hc) rfl ml_X9_229 ⟨Nat.le_of_ble_eq_true rfl, Nat.le_of_ble_eq_true rfl⟩ rfl rfl rfl (Nat.le_of_ble_eq_true rfl) dX9_lay_140 ?_
  exact V_vret hC hret dX9_lay_143 h
theorem c_X9_lay (l : Launch) {nr : Nat} {a1 : Int32} {H : Hp} {x : Unit} {H' : Hp} (h : f_X9_lay a1 H = some (x, H')) : CU l nr yX9_lay cX9_lay 3 none 1 22 (fun ad => [.ref (ad 0 0), .int a1]) H x H' := by
  intro D K4 ad sz
  refine Met.ofV (by decide) (Nat.le_of_ble_eq_true rfl) ?_
  intro p e s m args below meth c hC hret hsz
  subst hsz
  exact s_X9_lay hC hret h
