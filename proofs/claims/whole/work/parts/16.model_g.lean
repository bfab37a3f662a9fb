theorem dX9_isWay_0 : decode cX9_isWay 0 = .ok (.aload_n 0, 1) := by decide +kernel
theorem dX9_isWay_1 : decode cX9_isWay 1 = .ok (.iconst 0, 1) := by decide +kernel
theorem dX9_isWay_2 : decode cX9_isWay 2 = .ok (.putfield 257, 3) := by decide +kernel
theorem dX9_isWay_5 : decode cX9_isWay 5 = .ok (.aload_n 0, 1) := by decide +kernel
theorem dX9_isWay_6 : decode cX9_isWay 6 = .ok (.iload_n 1, 1) := by decide +kernel
theorem dX9_isWay_7 : decode cX9_isWay 7 = .ok (.invokevirtual 208, 3) := by decide +kernel
theorem dX9_isWay_10 : decode cX9_isWay 10 = .ok (.ifCond .eq 20, 3) := by decide +kernel
theorem dX9_isWay_13 : decode cX9_isWay 13 = .ok (.lload_n 2, 1) := by decide +kernel
theorem dX9_isWay_14 : decode cX9_isWay 14 = .ok (.lconst 0, 1) := by decide +kernel
theorem dX9_isWay_15 : decode cX9_isWay 15 = .ok (.lcmp, 1) := by decide +kernel
theorem dX9_isWay_16 : decode cX9_isWay 16 = .ok (.ifCond .lt 14, 3) := by decide +kernel
theorem dX9_isWay_19 : decode cX9_isWay 19 = .ok (.lload_n 2, 1) := by decide +kernel
theorem dX9_isWay_20 : decode cX9_isWay 20 = .ok (.aload_n 0, 1) := by decide +kernel
theorem dX9_isWay_21 : decode cX9_isWay 21 = .ok (.getfield 51, 3) := by decide +kernel
theorem dX9_isWay_24 : decode cX9_isWay 24 = .ok (.iload_n 1, 1) := by decide +kernel
theorem dX9_isWay_25 : decode cX9_isWay 25 = .ok (.laload, 1) := by decide +kernel
theorem dX9_isWay_26 : decode cX9_isWay 26 = .ok (.lcmp, 1) := by decide +kernel
theorem dX9_isWay_27 : decode cX9_isWay 27 = .ok (.ifCond .lt 5, 3) := by decide +kernel
theorem dX9_isWay_30 : decode cX9_isWay 30 = .ok (.iconst 0, 1) := by decide +kernel
theorem dX9_isWay_31 : decode cX9_isWay 31 = .ok (.ireturn, 1) := by decide +kernel
theorem dX9_isWay_32 : decode cX9_isWay 32 = .ok (.iconst 0, 1) := by decide +kernel
theorem dX9_isWay_33 : decode cX9_isWay 33 = .ok (.istore 4, 2) := by decide +kernel
theorem dX9_isWay_35 : decode cX9_isWay 35 = .ok (.lload_n 2, 1) := by decide +kernel
theorem dX9_isWay_36 : decode cX9_isWay 36 = .ok (.lstore 5, 2) := by decide +kernel
theorem dX9_isWay_38 : decode cX9_isWay 38 = .ok (.iconst 0, 1) := by decide +kernel
theorem dX9_isWay_39 : decode cX9_isWay 39 = .ok (.istore 7, 2) := by decide +kernel
theorem dX9_isWay_41 : decode cX9_isWay 41 = .ok (.iload 7, 2) := by decide +kernel
theorem dX9_isWay_43 : decode cX9_isWay 43 = .ok (.aload_n 0, 1) := by decide +kernel
theorem dX9_isWay_44 : decode cX9_isWay 44 = .ok (.getfield 7, 3) := by decide +kernel
theorem dX9_isWay_47 : decode cX9_isWay 47 = .ok (.iload_n 1, 1) := by decide +kernel
theorem dX9_isWay_48 : decode cX9_isWay 48 = .ok (.iaload, 1) := by decide +kernel
theorem dX9_isWay_49 : decode cX9_isWay 49 = .ok (.if_icmp .ge 67, 3) := by decide +kernel
theorem dX9_isWay_52 : decode cX9_isWay 52 = .ok (.aload_n 0, 1) := by decide +kernel
theorem dX9_isWay_53 : decode cX9_isWay 53 = .ok (.getfield 57, 3) := by decide +kernel
theorem dX9_isWay_56 : decode cX9_isWay 56 = .ok (.bipush 20, 2) := by decide +kernel
theorem dX9_isWay_58 : decode cX9_isWay 58 = .ok (.iload_n 1, 1) := by decide +kernel
theorem dX9_isWay_59 : decode cX9_isWay 59 = .ok (.imul, 1) := by decide +kernel
theorem dX9_isWay_60 : decode cX9_isWay 60 = .ok (.iload 7, 2) := by decide +kernel
theorem dX9_isWay_62 : decode cX9_isWay 62 = .ok (.iadd, 1) := by decide +kernel
theorem dX9_isWay_63 : decode cX9_isWay 63 = .ok (.laload, 1) := by decide +kernel
theorem dX9_isWay_64 : decode cX9_isWay 64 = .ok (.lstore 8, 2) := by decide +kernel
theorem dX9_isWay_66 : decode cX9_isWay 66 = .ok (.lload 8, 2) := by decide +kernel
theorem dX9_isWay_68 : decode cX9_isWay 68 = .ok (.lconst 0, 1) := by decide +kernel
theorem dX9_isWay_69 : decode cX9_isWay 69 = .ok (.lcmp, 1) := by decide +kernel
theorem dX9_isWay_70 : decode cX9_isWay 70 = .ok (.ifCond .lt 40, 3) := by decide +kernel
theorem dX9_isWay_73 : decode cX9_isWay 73 = .ok (.lload_n 2, 1) := by decide +kernel
theorem dX9_isWay_74 : decode cX9_isWay 74 = .ok (.lload 8, 2) := by decide +kernel
theorem dX9_isWay_76 : decode cX9_isWay 76 = .ok (.lcmp, 1) := by decide +kernel
theorem dX9_isWay_77 : decode cX9_isWay 77 = .ok (.ifCond .lt 33, 3) := by decide +kernel
theorem dX9_isWay_80 : decode cX9_isWay 80 = .ok (.lload_n 2, 1) := by decide +kernel
theorem dX9_isWay_81 : decode cX9_isWay 81 = .ok (.lload 8, 2) := by decide +kernel
theorem dX9_isWay_83 : decode cX9_isWay 83 = .ok (.aload_n 0, 1) := by decide +kernel
theorem dX9_isWay_84 : decode cX9_isWay 84 = .ok (.getfield 54, 3) := by decide +kernel
theorem dX9_isWay_87 : decode cX9_isWay 87 = .ok (.bipush 20, 2) := by decide +kernel
theorem dX9_isWay_89 : decode cX9_isWay 89 = .ok (.iload_n 1, 1) := by decide +kernel
theorem dX9_isWay_90 : decode cX9_isWay 90 = .ok (.imul, 1) := by decide +kernel
theorem dX9_isWay_91 : decode cX9_isWay 91 = .ok (.iload 7, 2) := by decide +kernel
theorem dX9_isWay_93 : decode cX9_isWay 93 = .ok (.iadd, 1) := by decide +kernel
theorem dX9_isWay_94 : decode cX9_isWay 94 = .ok (.laload, 1) := by decide +kernel
theorem dX9_isWay_95 : decode cX9_isWay 95 = .ok (.ladd, 1) := by decide +kernel
theorem dX9_isWay_96 : decode cX9_isWay 96 = .ok (.lcmp, 1) := by decide +kernel
theorem dX9_isWay_97 : decode cX9_isWay 97 = .ok (.ifCond .ge 13, 3) := by decide +kernel
theorem dX9_isWay_100 : decode cX9_isWay 100 = .ok (.iload 7, 2) := by decide +kernel
theorem dX9_isWay_102 : decode cX9_isWay 102 = .ok (.istore 4, 2) := by decide +kernel
theorem dX9_isWay_104 : decode cX9_isWay 104 = .ok (.lload_n 2, 1) := by decide +kernel
theorem dX9_isWay_105 : decode cX9_isWay 105 = .ok (.lload 8, 2) := by decide +kernel
theorem dX9_isWay_107 : decode cX9_isWay 107 = .ok (.lsub, 1) := by decide +kernel
theorem dX9_isWay_108 : decode cX9_isWay 108 = .ok (.lstore 5, 2) := by decide +kernel
theorem dX9_isWay_110 : decode cX9_isWay 110 = .ok (.iinc 7 1, 3) := by decide +kernel
theorem dX9_isWay_113 : decode cX9_isWay 113 = .ok (.goto (-72), 3) := by decide +kernel
theorem dX9_isWay_116 : decode cX9_isWay 116 = .ok (.iconst 1, 1) := by decide +kernel
theorem dX9_isWay_117 : decode cX9_isWay 117 = .ok (.istore 7, 2) := by decide +kernel
theorem dX9_isWay_119 : decode cX9_isWay 119 = .ok (.iload 7, 2) := by decide +kernel
theorem dX9_isWay_121 : decode cX9_isWay 121 = .ok (.ifCond .eq 160, 3) := by decide +kernel
theorem dX9_isWay_124 : decode cX9_isWay 124 = .ok (.aload_n 0, 1) := by decide +kernel
theorem dX9_isWay_125 : decode cX9_isWay 125 = .ok (.getfield 126, 3) := by decide +kernel
theorem dX9_isWay_128 : decode cX9_isWay 128 = .ok (.aload_n 0, 1) := by decide +kernel
theorem dX9_isWay_129 : decode cX9_isWay 129 = .ok (.getfield 257, 3) := by decide +kernel
theorem dX9_isWay_132 : decode cX9_isWay 132 = .ok (.iload 4, 2) := by decide +kernel
theorem dX9_isWay_134 : decode cX9_isWay 134 = .ok (.iastore, 1) := by decide +kernel
theorem dX9_isWay_135 : decode cX9_isWay 135 = .ok (.iconst (-1), 1) := by decide +kernel
theorem dX9_isWay_136 : decode cX9_isWay 136 = .ok (.istore 8, 2) := by decide +kernel
theorem dX9_isWay_138 : decode cX9_isWay 138 = .ok (.bipush 40, 2) := by decide +kernel
theorem dX9_isWay_140 : decode cX9_isWay 140 = .ok (.iload_n 1, 1) := by decide +kernel
theorem dX9_isWay_141 : decode cX9_isWay 141 = .ok (.imul, 1) := by decide +kernel
theorem dX9_isWay_142 : decode cX9_isWay 142 = .ok (.istore 9, 2) := by decide +kernel
theorem dX9_isWay_144 : decode cX9_isWay 144 = .ok (.iload 9, 2) := by decide +kernel
theorem dX9_isWay_146 : decode cX9_isWay 146 = .ok (.bipush 40, 2) := by decide +kernel
theorem dX9_isWay_148 : decode cX9_isWay 148 = .ok (.iload_n 1, 1) := by decide +kernel
theorem dX9_isWay_149 : decode cX9_isWay 149 = .ok (.imul, 1) := by decide +kernel
theorem dX9_isWay_150 : decode cX9_isWay 150 = .ok (.aload_n 0, 1) := by decide +kernel
theorem dX9_isWay_151 : decode cX9_isWay 151 = .ok (.getfield 13, 3) := by decide +kernel
theorem dX9_isWay_154 : decode cX9_isWay 154 = .ok (.iload_n 1, 1) := by decide +kernel
theorem dX9_isWay_155 : decode cX9_isWay 155 = .ok (.iaload, 1) := by decide +kernel
theorem dX9_isWay_156 : decode cX9_isWay 156 = .ok (.iadd, 1) := by decide +kernel
theorem dX9_isWay_157 : decode cX9_isWay 157 = .ok (.if_icmp .ge 38, 3) := by decide +kernel
theorem dX9_isWay_160 : decode cX9_isWay 160 = .ok (.aload_n 0, 1) := by decide +kernel
theorem dX9_isWay_161 : decode cX9_isWay 161 = .ok (.getfield 26, 3) := by decide +kernel
theorem dX9_isWay_164 : decode cX9_isWay 164 = .ok (.iload 9, 2) := by decide +kernel
theorem dX9_isWay_166 : decode cX9_isWay 166 = .ok (.iaload, 1) := by decide +kernel
theorem dX9_isWay_167 : decode cX9_isWay 167 = .ok (.iload 4, 2) := by decide +kernel
theorem dX9_isWay_169 : decode cX9_isWay 169 = .ok (.if_icmp .ne 20, 3) := by decide +kernel
theorem dX9_isWay_172 : decode cX9_isWay 172 = .ok (.aload_n 0, 1) := by decide +kernel
theorem dX9_isWay_173 : decode cX9_isWay 173 = .ok (.getfield 60, 3) := by decide +kernel
theorem dX9_isWay_176 : decode cX9_isWay 176 = .ok (.iload 9, 2) := by decide +kernel
theorem dX9_isWay_178 : decode cX9_isWay 178 = .ok (.laload, 1) := by decide +kernel
theorem dX9_isWay_179 : decode cX9_isWay 179 = .ok (.lload 5, 2) := by decide +kernel
theorem dX9_isWay_181 : decode cX9_isWay 181 = .ok (.lcmp, 1) := by decide +kernel
theorem dX9_isWay_182 : decode cX9_isWay 182 = .ok (.ifCond .gt 7, 3) := by decide +kernel
theorem dX9_isWay_185 : decode cX9_isWay 185 = .ok (.iload 9, 2) := by decide +kernel
theorem dX9_isWay_187 : decode cX9_isWay 187 = .ok (.istore 8, 2) := by decide +kernel
theorem dX9_isWay_189 : decode cX9_isWay 189 = .ok (.iinc 9 1, 3) := by decide +kernel
theorem dX9_isWay_192 : decode cX9_isWay 192 = .ok (.goto (-48), 3) := by decide +kernel
theorem dX9_isWay_195 : decode cX9_isWay 195 = .ok (.aload_n 0, 1) := by decide +kernel
theorem dX9_isWay_196 : decode cX9_isWay 196 = .ok (.getfield 129, 3) := by decide +kernel
theorem dX9_isWay_199 : decode cX9_isWay 199 = .ok (.aload_n 0, 1) := by decide +kernel
theorem dX9_isWay_200 : decode cX9_isWay 200 = .ok (.getfield 257, 3) := by decide +kernel
theorem dX9_isWay_203 : decode cX9_isWay 203 = .ok (.iload 8, 2) := by decide +kernel
theorem dX9_isWay_205 : decode cX9_isWay 205 = .ok (.ifCond .ge 7, 3) := by decide +kernel
theorem dX9_isWay_208 : decode cX9_isWay 208 = .ok (.iconst (-1), 1) := by decide +kernel
theorem dX9_isWay_209 : decode cX9_isWay 209 = .ok (.goto 10, 3) := by decide +kernel
theorem dX9_isWay_212 : decode cX9_isWay 212 = .ok (.iload 8, 2) := by decide +kernel
theorem dX9_isWay_214 : decode cX9_isWay 214 = .ok (.bipush 40, 2) := by decide +kernel
theorem dX9_isWay_216 : decode cX9_isWay 216 = .ok (.iload_n 1, 1) := by decide +kernel
theorem dX9_isWay_217 : decode cX9_isWay 217 = .ok (.imul, 1) := by decide +kernel
theorem dX9_isWay_218 : decode cX9_isWay 218 = .ok (.isub, 1) := by decide +kernel
theorem dX9_isWay_219 : decode cX9_isWay 219 = .ok (.iastore, 1) := by decide +kernel
theorem dX9_isWay_220 : decode cX9_isWay 220 = .ok (.aload_n 0, 1) := by decide +kernel
theorem dX9_isWay_221 : decode cX9_isWay 221 = .ok (.dup, 1) := by decide +kernel
theorem dX9_isWay_222 : decode cX9_isWay 222 = .ok (.getfield 257, 3) := by decide +kernel
theorem dX9_isWay_225 : decode cX9_isWay 225 = .ok (.iconst 1, 1) := by decide +kernel
theorem dX9_isWay_226 : decode cX9_isWay 226 = .ok (.iadd, 1) := by decide +kernel
theorem dX9_isWay_227 : decode cX9_isWay 227 = .ok (.putfield 257, 3) := by decide +kernel
theorem dX9_isWay_230 : decode cX9_isWay 230 = .ok (.iload 8, 2) := by decide +kernel
theorem dX9_isWay_232 : decode cX9_isWay 232 = .ok (.ifCond .lt 17, 3) := by decide +kernel
theorem dX9_isWay_235 : decode cX9_isWay 235 = .ok (.aload_n 0, 1) := by decide +kernel
theorem dX9_isWay_236 : decode cX9_isWay 236 = .ok (.getfield 35, 3) := by decide +kernel
theorem dX9_isWay_239 : decode cX9_isWay 239 = .ok (.iload 8, 2) := by decide +kernel
theorem dX9_isWay_241 : decode cX9_isWay 241 = .ok (.baload, 1) := by decide +kernel
theorem dX9_isWay_242 : decode cX9_isWay 242 = .ok (.ifCond .ne 7, 3) := by decide +kernel
theorem dX9_isWay_245 : decode cX9_isWay 245 = .ok (.iconst 1, 1) := by decide +kernel
theorem dX9_isWay_246 : decode cX9_isWay 246 = .ok (.goto 4, 3) := by decide +kernel
theorem dX9_isWay_249 : decode cX9_isWay 249 = .ok (.iconst 0, 1) := by decide +kernel
theorem dX9_isWay_250 : decode cX9_isWay 250 = .ok (.istore 7, 2) := by decide +kernel
theorem dX9_isWay_252 : decode cX9_isWay 252 = .ok (.iload 7, 2) := by decide +kernel
theorem dX9_isWay_254 : decode cX9_isWay 254 = .ok (.ifCond .eq 24, 3) := by decide +kernel
theorem dX9_isWay_257 : decode cX9_isWay 257 = .ok (.lload 5, 2) := by decide +kernel
theorem dX9_isWay_259 : decode cX9_isWay 259 = .ok (.aload_n 0, 1) := by decide +kernel
theorem dX9_isWay_260 : decode cX9_isWay 260 = .ok (.getfield 60, 3) := by decide +kernel
theorem dX9_isWay_263 : decode cX9_isWay 263 = .ok (.iload 8, 2) := by decide +kernel
theorem dX9_isWay_265 : decode cX9_isWay 265 = .ok (.laload, 1) := by decide +kernel
theorem dX9_isWay_266 : decode cX9_isWay 266 = .ok (.lsub, 1) := by decide +kernel
theorem dX9_isWay_267 : decode cX9_isWay 267 = .ok (.lstore 5, 2) := by decide +kernel
theorem dX9_isWay_269 : decode cX9_isWay 269 = .ok (.aload_n 0, 1) := by decide +kernel
theorem dX9_isWay_270 : decode cX9_isWay 270 = .ok (.getfield 29, 3) := by decide +kernel
theorem dX9_isWay_273 : decode cX9_isWay 273 = .ok (.iload 8, 2) := by decide +kernel
theorem dX9_isWay_275 : decode cX9_isWay 275 = .ok (.iaload, 1) := by decide +kernel
theorem dX9_isWay_276 : decode cX9_isWay 276 = .ok (.istore 4, 2) := by decide +kernel
theorem dX9_isWay_278 : decode cX9_isWay 278 = .ok (.goto (-159), 3) := by decide +kernel
theorem dX9_isWay_281 : decode cX9_isWay 281 = .ok (.iconst 1, 1) := by decide +kernel
theorem dX9_isWay_282 : decode cX9_isWay 282 = .ok (.ireturn, 1) := by decide +kernel
def L_X9_isWay_41 (b1 : Int32) (b2 : Int64) (k : Int32 → Int64 → Hp → Option (Int32 × Hp)) : Nat → Int32 → Int64 → Int32 → Hp → Option (Int32 × Hp)
  | 0, _, _, _, _ => none
  | n + 1, x4, x5, x7, H => gd b1 8 (if (gI H 0 1 (Int32.toNatClampNeg b1)) ≤ x7 then k x4 x5 H else gd ((20 * b1) + x7) 160 (vl ((gJ H 0 16 (Int32.toNatClampNeg ((20 * b1) + x7)))) (fun (v8 : Int64) => if (lg_cmp v8 0) < 0 then vl (x7 + (1 : Int32)) (fun (v10 : Int32) => L_X9_isWay_41 b1 b2 k n x4 x5 v10 H) else if (lg_cmp b2 v8) < 0 then vl (x7 + (1 : Int32)) (fun (v12 : Int32) => L_X9_isWay_41 b1 b2 k n x4 x5 v12 H) else gd ((20 * b1) + x7) 160 (if 0 ≤ (lg_cmp b2 (v8 + (gJ H 0 15 (Int32.toNatClampNeg ((20 * b1) + x7))))) then vl (x7 + (1 : Int32)) (fun (v14 : Int32) => L_X9_isWay_41 b1 b2 k n x4 x5 v14 H) else vl ((b2 - v8)) (fun (v15 : Int64) => vl (x7 + (1 : Int32)) (fun (v16 : Int32) => L_X9_isWay_41 b1 b2 k n x7 v15 v16 H))))))
set_option maxRecDepth 100000 in
set_option maxHeartbeats 4000000 in
theorem sL_X9_isWay_41 {p : Program} {l : Launch} {e : Env} {s : State} {m : MethodId} {args : Array Value} {below : List Frame} {meth : Method} {c : Code} {A : Nat → Prop} {D : va_G} {K4 : kQ} {ad : Nat → Nat → Nat} {nr : Nat} {b1 : Int32} {b2 : Int64} {k : Int32 → Int64 → Hp → Option (Int32 × Hp)} {res : Int32 × Hp} (hC : Cx p s m args c A s.heap D K4 10 RX9 cX9_isWay) (hret : meth.sig.returnType = (some .boolean) ∧ meth.locks = false) (hk : ∀ (z4 : Int32) (z5 : Int64) (H : Hp), k z4 z5 H = some res → V p l e ({ frames := 2, cells := 0, slots := 0, locals := 42 }) s m args below meth c A s.heap (QI below args s A D K4 ad nr res) D K4 ad nr 10 116 [(0, .ref (ad 0 0)), (1, .int b1), (4, .int z4), (5, .long z5)] [] H) : ∀ (n : Nat) (x4 : Int32) (x5 : Int64) (x7 : Int32) (H : Hp), L_X9_isWay_41 b1 b2 k n x4 x5 x7 H = some res → V p l e ({ frames := 2, cells := 0, slots := 0, locals := 42 }) s m args below meth c A s.heap (QI below args s A D K4 ad nr res) D K4 ad nr 10 41 [(0, .ref (ad 0 0)), (1, .int b1), (2, .long b2), (4, .int x4), (5, .long x5), (7, .int x7)] [] H := by
  intro n
  induction n with
  | zero => intro x4 x5 x7 H h; exact nomatch (show (none : Option (Int32 × Hp)) = some res from h)
  | succ n ih =>
    intro x4 x5 x7 H h
    rw [L_X9_isWay_41] at h
    refine V_iload hC 5 dX9_isWay_41 rfl ?_
    refine V_aload_n hC 0 dX9_isWay_43 rfl ?_
    refine V_getR (g := 0) (k := 0) (g' := 0) (k' := 1) hC 9 1 fl_X9_7 rfl rfl rfl rfl dX9_isWay_44 ?_
    refine V_iload_n hC 1 dX9_isWay_47 rfl ?_
    obtain ⟨hi, h⟩ := gd_some h
    refine V_iald (g := 0) (k := 1) hC rfl rfl hi dX9_isWay_48 ?_
    refine V_icmp_ge (tgt := 116) hC dX9_isWay_49 (by decide) (fun c7 => ?_) (fun c7 => ?_)
    · have h := it_pos c7 h
      refine V_lv (lv' := [(0, .ref (ad 0 0)), (1, .int b1), (4, .int x4), (5, .long x5)]) [0, 1, 3, 4] rfl ?_
      exact hk x4 x5 H h
    · have h := it_neg c7 h
      refine V_aload_n hC 0 dX9_isWay_52 rfl ?_
      refine V_getR (g := 0) (k := 0) (g' := 0) (k' := 16) hC 9 16 fl_X9_57 rfl rfl rfl rfl dX9_isWay_53 ?_
      refine V_bipush (v := 20) hC dX9_isWay_56 (by decide) ?_
      refine V_iload_n hC 1 dX9_isWay_58 rfl ?_
      refine V_imul hC dX9_isWay_59 ?_
      refine V_iload hC 5 dX9_isWay_60 rfl ?_
      refine V_iadd hC dX9_isWay_62 ?_
      obtain ⟨hi, h⟩ := gd_some h
      refine V_lald (g := 0) (k := 16) hC rfl rfl hi dX9_isWay_63 ?_
      refine V_vlJ h (fun v8 h => ?_)
      refine V_lstore (lv' := [(8, .long v8), (0, .ref (ad 0 0)), (1, .int b1), (2, .long b2), (4, .int x4), (5, .long x5), (7, .int x7)]) hC dX9_isWay_64 (Nat.le_of_ble_eq_true rfl) rfl ?_
      refine V_lload hC 0 dX9_isWay_66 rfl ?_
      refine V_lconst (v := 0) hC dX9_isWay_68 (by decide) ?_
      refine V_lcmp hC dX9_isWay_69 ?_
      refine V_if_lt (tgt := 110) hC dX9_isWay_70 (by decide) (fun c9 => ?_) (fun c9 => ?_)
      · have h := it_pos c9 h
        refine V_vi h (fun v10 hvv10 h => ?_)
        refine V_iinc (v := v10) (lv' := [(7, .int v10), (8, .long v8), (0, .ref (ad 0 0)), (1, .int b1), (2, .long b2), (4, .int x4), (5, .long x5)]) hC 6 dX9_isWay_110 rfl hvv10.symm (Nat.le_of_ble_eq_true rfl) rfl ?_
        refine V_goto (tgt := 41) hC dX9_isWay_113 (by decide) ?_
        refine V_lv (lv' := [(0, .ref (ad 0 0)), (1, .int b1), (2, .long b2), (4, .int x4), (5, .long x5), (7, .int v10)]) [2, 3, 4, 5, 6, 0] rfl ?_
        exact ih x4 x5 v10 H h
      · have h := it_neg c9 h
        refine V_lload_n hC 3 dX9_isWay_73 rfl ?_
        refine V_lload hC 0 dX9_isWay_74 rfl ?_
        refine V_lcmp hC dX9_isWay_76 ?_
        refine V_if_lt (tgt := 110) hC dX9_isWay_77 (by decide) (fun c11 => ?_) (fun c11 => ?_)
        · have h := it_pos c11 h
          refine V_vi h (fun v12 hvv12 h => ?_)
          refine V_iinc (v := v12) (lv' := [(7, .int v12), (8, .long v8), (0, .ref (ad 0 0)), (1, .int b1), (2, .long b2), (4, .int x4), (5, .long x5)]) hC 6 dX9_isWay_110 rfl hvv12.symm (Nat.le_of_ble_eq_true rfl) rfl ?_
          refine V_goto (tgt := 41) hC dX9_isWay_113 (by decide) ?_
          refine V_lv (lv' := [(0, .ref (ad 0 0)), (1, .int b1), (2, .long b2), (4, .int x4), (5, .long x5), (7, .int v12)]) [2, 3, 4, 5, 6, 0] rfl ?_
          exact ih x4 x5 v12 H h
        · have h := it_neg c11 h
          refine V_lload_n hC 3 dX9_isWay_80 rfl ?_
          refine V_lload hC 0 dX9_isWay_81 rfl ?_
          refine V_aload_n hC 1 dX9_isWay_83 rfl ?_
          refine V_getR (g := 0) (k := 0) (g' := 0) (k' := 15) hC 9 15 fl_X9_54 rfl rfl rfl rfl dX9_isWay_84 ?_
          refine V_bipush (v := 20) hC dX9_isWay_87 (by decide) ?_
          refine V_iload_n hC 2 dX9_isWay_89 rfl ?_
          refine V_imul hC dX9_isWay_90 ?_
          refine V_iload hC 6 dX9_isWay_91 rfl ?_
          refine V_iadd hC dX9_isWay_93 ?_
          obtain ⟨hi, h⟩ := gd_some h
          refine V_lald (g := 0) (k := 15) hC rfl rfl hi dX9_isWay_94 ?_
          refine V_ladd hC dX9_isWay_95 ?_
          refine V_lcmp hC dX9_isWay_96 ?_
          refine V_if_ge (tgt := 110) hC dX9_isWay_97 (by decide) (fun c13 => ?_) (fun c13 => ?_)
          · have h := it_pos c13 h
            refine V_vi h (fun v14 hvv14 h => ?_)
            refine V_iinc (v := v14) (lv' := [(7, .int v14), (8, .long v8), (0, .ref (ad 0 0)), (1, .int b1), (2, .long b2), (4, .int x4), (5, .long x5)]) hC 6 dX9_isWay_110 rfl hvv14.symm (Nat.le_of_ble_eq_true rfl) rfl ?_
            refine V_goto (tgt := 41) hC dX9_isWay_113 (by decide) ?_
            refine V_lv (lv' := [(0, .ref (ad 0 0)), (1, .int b1), (2, .long b2), (4, .int x4), (5, .long x5), (7, .int v14)]) [2, 3, 4, 5, 6, 0] rfl ?_
            exact ih x4 x5 v14 H h
          · have h := it_neg c13 h
            refine V_iload hC 6 dX9_isWay_100 rfl ?_
            refine V_istore (lv' := [(4, .int x7), (8, .long v8), (0, .ref (ad 0 0)), (1, .int b1), (2, .long b2), (5, .long x5), (7, .int x7)]) hC dX9_isWay_102 (Nat.le_of_ble_eq_true rfl) rfl ?_
            refine V_lload_n hC 4 dX9_isWay_104 rfl ?_
            refine V_lload hC 1 dX9_isWay_105 rfl ?_
            refine V_lsub hC dX9_isWay_107 ?_
            refine V_vlJ h (fun v15 h => ?_)
            refine V_lstore (lv' := [(5, .long v15), (4, .int x7), (8, .long v8), (0, .ref (ad 0 0)), (1, .int b1), (2, .long b2), (7, .int x7)]) hC dX9_isWay_108 (Nat.le_of_ble_eq_true rfl) rfl ?_
            refine V_vi h (fun v16 hvv16 h => ?_)
            refine V_iinc (v := v16) (lv' := [(7, .int v16), (5, .long v15), (4, .int x7), (8, .long v8), (0, .ref (ad 0 0)), (1, .int b1), (2, .long b2)]) hC 6 dX9_isWay_110 rfl hvv16.symm (Nat.le_of_ble_eq_true rfl) rfl ?_
            refine V_goto (tgt := 41) hC dX9_isWay_113 (by decide) ?_
            refine V_lv (lv' := [(0, .ref (ad 0 0)), (1, .int b1), (2, .long b2), (4, .int x7), (5, .long v15), (7, .int v16)]) [4, 5, 6, 2, 1, 0] rfl ?_
            exact ih x7 v15 v16 H h
def L_X9_isWay_144 (b1 : Int32) (b4 : Int32) (b5 : Int64) (k : Int32 → Hp → Option (Int32 × Hp)) : Nat → Int32 → Int32 → Hp → Option (Int32 × Hp)
  | 0, _, _, _ => none
  | n + 1, x8, x9, H => gd b1 8 (if ((40 * b1) + (gI H 0 2 (Int32.toNatClampNeg b1))) ≤ x9 then k x8 H else gd x9 320 (if (gI H 0 6 (Int32.toNatClampNeg x9)) = b4 then gd x9 320 (if 0 < (lg_cmp (gJ H 0 17 (Int32.toNatClampNeg x9)) b5) then vl (x9 + (1 : Int32)) (fun (v27 : Int32) => L_X9_isWay_144 b1 b4 b5 k n x8 v27 H) else vl (x9 + (1 : Int32)) (fun (v28 : Int32) => L_X9_isWay_144 b1 b4 b5 k n x9 v28 H)) else vl (x9 + (1 : Int32)) (fun (v25 : Int32) => L_X9_isWay_144 b1 b4 b5 k n x8 v25 H)))
set_option maxRecDepth 100000 in
set_option maxHeartbeats 4000000 in
theorem sL_X9_isWay_144 {p : Program} {l : Launch} {e : Env} {s : State} {m : MethodId} {args : Array Value} {below : List Frame} {meth : Method} {c : Code} {A : Nat → Prop} {D : va_G} {K4 : kQ} {ad : Nat → Nat → Nat} {nr : Nat} {b1 : Int32} {b4 : Int32} {b5 : Int64} {k : Int32 → Hp → Option (Int32 × Hp)} {res : Int32 × Hp} (hC : Cx p s m args c A s.heap D K4 10 RX9 cX9_isWay) (hret : meth.sig.returnType = (some .boolean) ∧ meth.locks = false) (hk : ∀ (z8 : Int32) (H : Hp), k z8 H = some res → V p l e ({ frames := 2, cells := 0, slots := 0, locals := 42 }) s m args below meth c A s.heap (QI below args s A D K4 ad nr res) D K4 ad nr 10 195 [(0, .ref (ad 0 0)), (1, .int b1), (4, .int b4), (5, .long b5), (8, .int z8)] [] H) : ∀ (n : Nat) (x8 : Int32) (x9 : Int32) (H : Hp), L_X9_isWay_144 b1 b4 b5 k n x8 x9 H = some res → V p l e ({ frames := 2, cells := 0, slots := 0, locals := 42 }) s m args below meth c A s.heap (QI below args s A D K4 ad nr res) D K4 ad nr 10 144 [(0, .ref (ad 0 0)), (1, .int b1), (4, .int b4), (5, .long b5), (8, .int x8), (9, .int x9)] [] H := by
  intro n
  induction n with
  | zero => intro x8 x9 H h; exact nomatch (show (none : Option (Int32 × Hp)) = some res from h)
  | succ n ih =>
    intro x8 x9 H h
    rw [L_X9_isWay_144] at h
    refine V_iload hC 5 dX9_isWay_144 rfl ?_
    refine V_bipush (v := 40) hC dX9_isWay_146 (by decide) ?_
    refine V_iload_n hC 1 dX9_isWay_148 rfl ?_
    refine V_imul hC dX9_isWay_149 ?_
    refine V_aload_n hC 0 dX9_isWay_150 rfl ?_
    refine V_getR (g := 0) (k := 0) (g' := 0) (k' := 2) hC 9 2 fl_X9_13 rfl rfl rfl rfl dX9_isWay_151 ?_
    refine V_iload_n hC 1 dX9_isWay_154 rfl ?_
    obtain ⟨hi, h⟩ := gd_some h
    refine V_iald (g := 0) (k := 2) hC rfl rfl hi dX9_isWay_155 ?_
    refine V_iadd hC dX9_isWay_156 ?_
    refine V_icmp_ge (tgt := 195) hC dX9_isWay_157 (by decide) (fun c23 => ?_) (fun c23 => ?_)
    · have h := it_pos c23 h
      refine V_lv (lv' := [(0, .ref (ad 0 0)), (1, .int b1), (4, .int b4), (5, .long b5), (8, .int x8)]) [0, 1, 2, 3, 4] rfl ?_
      exact hk x8 H h
    · have h := it_neg c23 h
      refine V_aload_n hC 0 dX9_isWay_160 rfl ?_
      refine V_getR (g := 0) (k := 0) (g' := 0) (k' := 6) hC 9 6 fl_X9_26 rfl rfl rfl rfl dX9_isWay_161 ?_
      refine V_iload hC 5 dX9_isWay_164 rfl ?_
      obtain ⟨hi, h⟩ := gd_some h
      refine V_iald (g := 0) (k := 6) hC rfl rfl hi dX9_isWay_166 ?_
      refine V_iload hC 2 dX9_isWay_167 rfl ?_
      refine V_icmp_ne (tgt := 189) hC dX9_isWay_169 (by decide) (fun c24 => ?_) (fun c24 => ?_)
      · have h := it_neg c24 h
        refine V_vi h (fun v25 hvv25 h => ?_)
        refine V_iinc (v := v25) (lv' := [(9, .int v25), (0, .ref (ad 0 0)), (1, .int b1), (4, .int b4), (5, .long b5), (8, .int x8)]) hC 5 dX9_isWay_189 rfl hvv25.symm (Nat.le_of_ble_eq_true rfl) rfl ?_
        refine V_goto (tgt := 144) hC dX9_isWay_192 (by decide) ?_
        refine V_lv (lv' := [(0, .ref (ad 0 0)), (1, .int b1), (4, .int b4), (5, .long b5), (8, .int x8), (9, .int v25)]) [1, 2, 3, 4, 5, 0] rfl ?_
        exact ih x8 v25 H h
      · have h := it_pos c24 h
        refine V_aload_n hC 0 dX9_isWay_172 rfl ?_
        refine V_getR (g := 0) (k := 0) (g' := 0) (k' := 17) hC 9 17 fl_X9_60 rfl rfl rfl rfl dX9_isWay_173 ?_
        refine V_iload hC 5 dX9_isWay_176 rfl ?_
        obtain ⟨hi, h⟩ := gd_some h
        refine V_lald (g := 0) (k := 17) hC rfl rfl hi dX9_isWay_178 ?_
        refine V_lload hC 3 dX9_isWay_179 rfl ?_
        refine V_lcmp hC dX9_isWay_181 ?_
        refine V_if_gt (tgt := 189) hC dX9_isWay_182 (by decide) (fun c26 => ?_) (fun c26 => ?_)
        · have h := it_pos c26 h
          refine V_vi h (fun v27 hvv27 h => ?_)
          refine V_iinc (v := v27) (lv' := [(9, .int v27), (0, .ref (ad 0 0)), (1, .int b1), (4, .int b4), (5, .long b5), (8, .int x8)]) hC 5 dX9_isWay_189 rfl hvv27.symm (Nat.le_of_ble_eq_true rfl) rfl ?_
          refine V_goto (tgt := 144) hC dX9_isWay_192 (by decide) ?_
          refine V_lv (lv' := [(0, .ref (ad 0 0)), (1, .int b1), (4, .int b4), (5, .long b5), (8, .int x8), (9, .int v27)]) [1, 2, 3, 4, 5, 0] rfl ?_
          exact ih x8 v27 H h
        · have h := it_neg c26 h
          refine V_iload hC 5 dX9_isWay_185 rfl ?_
          refine V_istore (lv' := [(8, .int x9), (0, .ref (ad 0 0)), (1, .int b1), (4, .int b4), (5, .long b5), (9, .int x9)]) hC dX9_isWay_187 (Nat.le_of_ble_eq_true rfl) rfl ?_
          refine V_vi h (fun v28 hvv28 h => ?_)
          refine V_iinc (v := v28) (lv' := [(9, .int v28), (8, .int x9), (0, .ref (ad 0 0)), (1, .int b1), (4, .int b4), (5, .long b5)]) hC 5 dX9_isWay_189 rfl hvv28.symm (Nat.le_of_ble_eq_true rfl) rfl ?_
          refine V_goto (tgt := 144) hC dX9_isWay_192 (by decide) ?_
          refine V_lv (lv' := [(0, .ref (ad 0 0)), (1, .int b1), (4, .int b4), (5, .long b5), (8, .int x9), (9, .int v28)]) [2, 3, 4, 5, 1, 0] rfl ?_
          exact ih x9 v28 H h
def L_X9_isWay_119 (b1 : Int32) (k : Hp → Option (Int32 × Hp)) : Nat → Int32 → Int64 → Int32 → Hp → Option (Int32 × Hp)
  | 0, _, _, _, _ => none
  | n + 1, x4, x5, x7, H => if x7 = 0 then k H else gd (gI H 0 0 47) 21 (hl (sI H 0 45 (Int32.toNatClampNeg (gI H 0 0 47)) x4) (fun (H21 : Hp) => vl ((40 * b1)) (fun (v22 : Int32) => L_X9_isWay_144 b1 x4 x5 (fun (z29 : Int32) (H30 : Hp) => jn (fun (y32 : Int32) (H33 : Hp) => gd (gI H30 0 0 47) 21 (hl (sI H33 0 46 (Int32.toNatClampNeg (gI H30 0 0 47)) y32) (fun (H34 : Hp) => hl (sI H34 0 0 47 ((gI H34 0 0 47) + 1)) (fun (H35 : Hp) => jn (fun (y37 : Int32) (H38 : Hp) => if y37 = 0 then L_X9_isWay_119 b1 k n x4 x5 y37 H38 else gd z29 320 (vl ((x5 - (gJ H38 0 17 (Int32.toNatClampNeg z29)))) (fun (v40 : Int64) => gd z29 320 (vl ((gI H38 0 7 (Int32.toNatClampNeg z29))) (fun (v41 : Int32) => L_X9_isWay_119 b1 k n v41 v40 y37 H38))))) (fun j36 => if z29 < 0 then j36 0 H35 else gd z29 320 (if (gI H35 0 9 (Int32.toNatClampNeg z29)) = 0 then j36 1 H35 else j36 0 H35)))))) (fun j31 => if 0 ≤ z29 then j31 ((z29 - (40 * b1))) H30 else j31 (-1) H30)) FU (-1) v22 H21)))
set_option maxRecDepth 100000 in
set_option maxHeartbeats 4000000 in
theorem sL_X9_isWay_119 {p : Program} {l : Launch} {e : Env} {s : State} {m : MethodId} {args : Array Value} {below : List Frame} {meth : Method} {c : Code} {A : Nat → Prop} {D : va_G} {K4 : kQ} {ad : Nat → Nat → Nat} {nr : Nat} {b1 : Int32} {k : Hp → Option (Int32 × Hp)} {res : Int32 × Hp} (hC : Cx p s m args c A s.heap D K4 10 RX9 cX9_isWay) (hret : meth.sig.returnType = (some .boolean) ∧ meth.locks = false) (hk : ∀ (H : Hp), k H = some res → V p l e ({ frames := 2, cells := 0, slots := 0, locals := 42 }) s m args below meth c A s.heap (QI below args s A D K4 ad nr res) D K4 ad nr 10 281 [] [] H) : ∀ (n : Nat) (x4 : Int32) (x5 : Int64) (x7 : Int32) (H : Hp), L_X9_isWay_119 b1 k n x4 x5 x7 H = some res → V p l e ({ frames := 2, cells := 0, slots := 0, locals := 42 }) s m args below meth c A s.heap (QI below args s A D K4 ad nr res) D K4 ad nr 10 119 [(0, .ref (ad 0 0)), (1, .int b1), (4, .int x4), (5, .long x5), (7, .int x7)] [] H := by
  intro n
  induction n with
  | zero => intro x4 x5 x7 H h; exact nomatch (show (none : Option (Int32 × Hp)) = some res from h)
  | succ n ih =>
    intro x4 x5 x7 H h
    rw [L_X9_isWay_119] at h
    refine V_iload hC 4 dX9_isWay_119 rfl ?_
    refine V_if_eq (tgt := 281) hC dX9_isWay_121 (by decide) (fun c20 => ?_) (fun c20 => ?_)
    · have h := it_pos c20 h
      refine V_lv (lv' := []) [] rfl ?_
      exact hk H h
    · have h := it_neg c20 h
      refine V_aload_n hC 0 dX9_isWay_124 rfl ?_
      refine V_getR (g := 0) (k := 0) (g' := 0) (k' := 45) hC 9 45 fl_X9_126 rfl rfl rfl rfl dX9_isWay_125 ?_
      refine V_aload_n hC 0 dX9_isWay_128 rfl ?_
      refine V_getI (g := 0) (k := 0) hC 9 47 fl_X9_257 rfl rfl rfl dX9_isWay_129 ?_
      refine V_iload hC 2 dX9_isWay_132 rfl ?_
      obtain ⟨hi, h⟩ := gd_some h
      refine V_iast (g := 0) (k := 45) hC rfl rfl hi dX9_isWay_134 ?_
      refine V_hl h (fun H21 h => ?_)
      refine V_iconst (v := -1) hC dX9_isWay_135 (by decide) ?_
      refine V_istore (lv' := [(8, .int (-1)), (0, .ref (ad 0 0)), (1, .int b1), (4, .int x4), (5, .long x5), (7, .int x7)]) hC dX9_isWay_136 (Nat.le_of_ble_eq_true rfl) rfl ?_
      refine V_bipush (v := 40) hC dX9_isWay_138 (by decide) ?_
      refine V_iload_n hC 2 dX9_isWay_140 rfl ?_
      refine V_imul hC dX9_isWay_141 ?_
      refine V_vlI h (fun v22 h => ?_)
      refine V_istore (lv' := [(9, .int v22), (8, .int (-1)), (0, .ref (ad 0 0)), (1, .int b1), (4, .int x4), (5, .long x5), (7, .int x7)]) hC dX9_isWay_142 (Nat.le_of_ble_eq_true rfl) rfl ?_
      refine V_lv (lv' := [(0, .ref (ad 0 0)), (1, .int b1), (4, .int x4), (5, .long x5), (8, .int (-1)), (9, .int v22)]) [2, 3, 4, 5, 1, 0] rfl ?_
      refine sL_X9_isWay_144 hC hret (fun z29 H30 h => ?_) _ (-1) v22 H21 h
      refine V_aload_n hC 0 dX9_isWay_195 rfl ?_
      refine V_getR (g := 0) (k := 0) (g' := 0) (k' := 46) hC 9 46 fl_X9_129 rfl rfl rfl rfl dX9_isWay_196 ?_
      refine V_aload_n hC 0 dX9_isWay_199 rfl ?_
      refine V_getI (g := 0) (k := 0) hC 9 47 fl_X9_257 rfl rfl rfl dX9_isWay_200 ?_
      refine V_iload hC 4 dX9_isWay_203 rfl ?_
      refine V_jn1 (pj := 219) (lj := fun y32 => [(0, .ref (ad 0 0)), (1, .int b1), (4, .int x4), (5, .long x5), (8, .int z29)]) (sj := fun y32 => [.int y32, .int (gI H30 0 0 47), .ref (ad 0 46)]) h (fun y32 H33 h => ?_) (fun hj31 h => ?_)
      · obtain ⟨hi, h⟩ := gd_some h
        refine V_iast (g := 0) (k := 46) hC rfl rfl hi dX9_isWay_219 ?_
        refine V_hl h (fun H34 h => ?_)
        refine V_aload_n hC 0 dX9_isWay_220 rfl ?_
        refine V_dup hC dX9_isWay_221 rfl ?_
        refine V_getI (g := 0) (k := 0) hC 9 47 fl_X9_257 rfl rfl rfl dX9_isWay_222 ?_
        refine V_iconst (v := 1) hC dX9_isWay_225 (by decide) ?_
        refine V_iadd hC dX9_isWay_226 ?_
        refine V_putI (g := 0) (k := 0) hC 9 47 .int fw_X9_257 rfl rfl rfl rfl rfl dX9_isWay_227 ?_
        refine V_hl h (fun H35 h => ?_)
        refine V_iload hC 4 dX9_isWay_230 rfl ?_
        refine V_jn1 (pj := 250) (lj := fun y37 => [(0, .ref (ad 0 0)), (1, .int b1), (4, .int x4), (5, .long x5), (8, .int z29)]) (sj := fun y37 => [.int y37]) h (fun y37 H38 h => ?_) (fun hj36 h => ?_)
        · refine V_istore (lv' := [(7, .int y37), (0, .ref (ad 0 0)), (1, .int b1), (4, .int x4), (5, .long x5), (8, .int z29)]) hC dX9_isWay_250 (Nat.le_of_ble_eq_true rfl) rfl ?_
          refine V_iload hC 0 dX9_isWay_252 rfl ?_
          refine V_if_eq (tgt := 278) hC dX9_isWay_254 (by decide) (fun c39 => ?_) (fun c39 => ?_)
          · have h := it_pos c39 h
            refine V_goto (tgt := 119) hC dX9_isWay_278 (by decide) ?_
            refine V_lv (lv' := [(0, .ref (ad 0 0)), (1, .int b1), (4, .int x4), (5, .long x5), (7, .int y37)]) [1, 2, 3, 4, 0] rfl ?_
            exact ih x4 x5 y37 H38 h
          · have h := it_neg c39 h
            refine V_lload hC 4 dX9_isWay_257 rfl ?_
            refine V_aload_n hC 1 dX9_isWay_259 rfl ?_
            refine V_getR (g := 0) (k := 0) (g' := 0) (k' := 17) hC 9 17 fl_X9_60 rfl rfl rfl rfl dX9_isWay_260 ?_
            refine V_iload hC 5 dX9_isWay_263 rfl ?_
            obtain ⟨hi, h⟩ := gd_some h
            refine V_lald (g := 0) (k := 17) hC rfl rfl hi dX9_isWay_265 ?_
            refine V_lsub hC dX9_isWay_266 ?_
            refine V_vlJ h (fun v40 h => ?_)
            refine V_lstore (lv' := [(5, .long v40), (7, .int y37), (0, .ref (ad 0 0)), (1, .int b1), (4, .int x4), (8, .int z29)]) hC dX9_isWay_267 (Nat.le_of_ble_eq_true rfl) rfl ?_
            refine V_aload_n hC 2 dX9_isWay_269 rfl ?_
            refine V_getR (g := 0) (k := 0) (g' := 0) (k' := 7) hC 9 7 fl_X9_29 rfl rfl rfl rfl dX9_isWay_270 ?_
            refine V_iload hC 5 dX9_isWay_273 rfl ?_
            obtain ⟨hi, h⟩ := gd_some h
            refine V_iald (g := 0) (k := 7) hC rfl rfl hi dX9_isWay_275 ?_
            refine V_vlI h (fun v41 h => ?_)
            refine V_istore (lv' := [(4, .int v41), (5, .long v40), (7, .int y37), (0, .ref (ad 0 0)), (1, .int b1), (8, .int z29)]) hC dX9_isWay_276 (Nat.le_of_ble_eq_true rfl) rfl ?_
            refine V_goto (tgt := 119) hC dX9_isWay_278 (by decide) ?_
            refine V_lv (lv' := [(0, .ref (ad 0 0)), (1, .int b1), (4, .int v41), (5, .long v40), (7, .int y37)]) [3, 4, 0, 1, 2] rfl ?_
            exact ih v41 v40 y37 H38 h
        · refine V_if_lt (tgt := 249) hC dX9_isWay_232 (by decide) (fun c42 => ?_) (fun c42 => ?_)
          · have h := it_pos c42 h
            refine V_iconst (v := 0) hC dX9_isWay_249 (by decide) ?_
            refine V_lv (lv' := [(0, .ref (ad 0 0)), (1, .int b1), (4, .int x4), (5, .long x5), (8, .int z29)]) [0, 1, 2, 3, 4] rfl ?_
            exact hj36 0 H35 h
          · have h := it_neg c42 h
            refine V_aload_n hC 0 dX9_isWay_235 rfl ?_
            refine V_getR (g := 0) (k := 0) (g' := 0) (k' := 9) hC 9 9 fl_X9_35 rfl rfl rfl rfl dX9_isWay_236 ?_
            refine V_iload hC 4 dX9_isWay_239 rfl ?_
            obtain ⟨hi, h⟩ := gd_some h
            refine V_zald (g := 0) (k := 9) hC rfl rfl hi dX9_isWay_241 ?_
            refine V_if_ne (tgt := 249) hC dX9_isWay_242 (by decide) (fun c43 => ?_) (fun c43 => ?_)
            · have h := it_neg c43 h
              refine V_iconst (v := 0) hC dX9_isWay_249 (by decide) ?_
              refine V_lv (lv' := [(0, .ref (ad 0 0)), (1, .int b1), (4, .int x4), (5, .long x5), (8, .int z29)]) [0, 1, 2, 3, 4] rfl ?_
              exact hj36 0 H35 h
            · have h := it_pos c43 h
              refine V_iconst (v := 1) hC dX9_isWay_245 (by decide) ?_
              refine V_goto (tgt := 250) hC dX9_isWay_246 (by decide) ?_
              refine V_lv (lv' := [(0, .ref (ad 0 0)), (1, .int b1), (4, .int x4), (5, .long x5), (8, .int z29)]) [0, 1, 2, 3, 4] rfl ?_
              exact hj36 1 H35 h
      · refine V_if_ge (tgt := 212) hC dX9_isWay_205 (by decide) (fun c44 => ?_) (fun c44 => ?_)
        · have h := it_pos c44 h
          refine V_iload hC 4 dX9_isWay_212 rfl ?_
          refine V_bipush (v := 40) hC dX9_isWay_214 (by decide) ?_
          refine V_iload_n hC 1 dX9_isWay_216 rfl ?_
          refine V_imul hC dX9_isWay_217 ?_
          refine V_isub hC dX9_isWay_218 ?_
          refine V_lv (lv' := [(0, .ref (ad 0 0)), (1, .int b1), (4, .int x4), (5, .long x5), (8, .int z29)]) [0, 1, 2, 3, 4] rfl ?_
          exact hj31 ((z29 - (40 * b1))) H30 h
        · have h := it_neg c44 h
          refine V_iconst (v := -1) hC dX9_isWay_208 (by decide) ?_
          refine V_goto (tgt := 219) hC dX9_isWay_209 (by decide) ?_
          refine V_lv (lv' := [(0, .ref (ad 0 0)), (1, .int b1), (4, .int x4), (5, .long x5), (8, .int z29)]) [0, 1, 2, 3, 4] rfl ?_
          exact hj31 (-1) H30 h
def f_X9_isWay (a1 : Int32) (a2 : Int64) (H : Hp) : Option (Int32 × Hp) := hl (sI H 0 0 47 0) (fun (H1 : Hp) => bnd (f_X9_isDone a1 H1) (fun w3 H2 => if w3 = 0 then some (0, H2) else if (lg_cmp a2 0) < 0 then some (0, H2) else gd a1 8 (if (lg_cmp a2 (gJ H2 0 14 (Int32.toNatClampNeg a1))) < 0 then L_X9_isWay_41 a1 a2 (fun (z17 : Int32) (z18 : Int64) (H19 : Hp) => L_X9_isWay_119 a1 (fun (H45 : Hp) => some (1, H45)) FU z17 z18 1 H19) FU 0 a2 0 H2 else some (0, H2))))
set_option maxRecDepth 100000 in
set_option maxHeartbeats 4000000 in
theorem s_X9_isWay {p : Program} {l : Launch} {e : Env} {s : State} {m : MethodId} {args : Array Value} {below : List Frame} {meth : Method} {c : Code} {A : Nat → Prop} {D : va_G} {K4 : kQ} {ad : Nat → Nat → Nat} {nr : Nat} {a1 : Int32} {a2 : Int64} {H : Hp} {res : Int32 × Hp} (hC : Cx p s m args c A s.heap D K4 10 RX9 cX9_isWay) (hret : meth.sig.returnType = (some .boolean) ∧ meth.locks = false) (h : f_X9_isWay a1 a2 H = some res) : V p l e ({ frames := 2, cells := 0, slots := 0, locals := 42 }) s m args below meth c A s.heap (QI below args s A D K4 ad nr res) D K4 ad nr 10 0 [(0, .ref (ad 0 0)), (1, .int a1), (2, .long a2)] [] H := by
  unfold f_X9_isWay at h
  refine V_aload_n hC 0 dX9_isWay_0 rfl ?_
  refine V_iconst (v := 0) hC dX9_isWay_1 (by decide) ?_
  refine V_putI (g := 0) (k := 0) hC 9 47 .int fw_X9_257 rfl rfl rfl rfl rfl dX9_isWay_2 ?_
  refine V_hl h (fun H1 h => ?_)
  refine V_aload_n hC 0 dX9_isWay_5 rfl ?_
  refine V_iload_n hC 1 dX9_isWay_6 rfl ?_
  obtain ⟨w3, H2, hc, h⟩ := bnd_some h
  refine V_calli (g := 0) (k := 0) (As := [.int a1]) (st := []) hC (c_X9_isDone l hc) rfl ml_X9_208 ⟨Nat.le_of_ble_eq_true rfl, Nat.le_of_ble_eq_true rfl⟩ rfl rfl rfl (Nat.le_of_ble_eq_true rfl) dX9_isWay_7 ?_
  refine V_if_eq (tgt := 30) hC dX9_isWay_10 (by decide) (fun c4 => ?_) (fun c4 => ?_)
  · have h := it_pos c4 h
    refine V_iconst (v := 0) hC dX9_isWay_30 (by decide) ?_
    exact V_zret hC hret (by decide) dX9_isWay_31 h
  · have h := it_neg c4 h
    refine V_lload_n hC 2 dX9_isWay_13 rfl ?_
    refine V_lconst (v := 0) hC dX9_isWay_14 (by decide) ?_
    refine V_lcmp hC dX9_isWay_15 ?_
    refine V_if_lt (tgt := 30) hC dX9_isWay_16 (by decide) (fun c5 => ?_) (fun c5 => ?_)
    · have h := it_pos c5 h
      refine V_iconst (v := 0) hC dX9_isWay_30 (by decide) ?_
      exact V_zret hC hret (by decide) dX9_isWay_31 h
    · have h := it_neg c5 h
      refine V_lload_n hC 2 dX9_isWay_19 rfl ?_
      refine V_aload_n hC 0 dX9_isWay_20 rfl ?_
      refine V_getR (g := 0) (k := 0) (g' := 0) (k' := 14) hC 9 14 fl_X9_51 rfl rfl rfl rfl dX9_isWay_21 ?_
      refine V_iload_n hC 1 dX9_isWay_24 rfl ?_
      obtain ⟨hi, h⟩ := gd_some h
      refine V_lald (g := 0) (k := 14) hC rfl rfl hi dX9_isWay_25 ?_
      refine V_lcmp hC dX9_isWay_26 ?_
      refine V_if_lt (tgt := 32) hC dX9_isWay_27 (by decide) (fun c6 => ?_) (fun c6 => ?_)
      · have h := it_pos c6 h
        refine V_iconst (v := 0) hC dX9_isWay_32 (by decide) ?_
        refine V_istore (lv' := [(4, .int 0), (0, .ref (ad 0 0)), (1, .int a1), (2, .long a2)]) hC dX9_isWay_33 (Nat.le_of_ble_eq_true rfl) rfl ?_
        refine V_lload_n hC 3 dX9_isWay_35 rfl ?_
        refine V_lstore (lv' := [(5, .long a2), (4, .int 0), (0, .ref (ad 0 0)), (1, .int a1), (2, .long a2)]) hC dX9_isWay_36 (Nat.le_of_ble_eq_true rfl) rfl ?_
        refine V_iconst (v := 0) hC dX9_isWay_38 (by decide) ?_
        refine V_istore (lv' := [(7, .int 0), (5, .long a2), (4, .int 0), (0, .ref (ad 0 0)), (1, .int a1), (2, .long a2)]) hC dX9_isWay_39 (Nat.le_of_ble_eq_true rfl) rfl ?_
        refine V_lv (lv' := [(0, .ref (ad 0 0)), (1, .int a1), (2, .long a2), (4, .int 0), (5, .long a2), (7, .int 0)]) [3, 4, 5, 2, 1, 0] rfl ?_
        refine sL_X9_isWay_41 hC hret (fun z17 z18 H19 h => ?_) _ 0 a2 0 H2 h
        refine V_iconst (v := 1) hC dX9_isWay_116 (by decide) ?_
        refine V_istore (lv' := [(7, .int 1), (0, .ref (ad 0 0)), (1, .int a1), (4, .int z17), (5, .long z18)]) hC dX9_isWay_117 (Nat.le_of_ble_eq_true rfl) rfl ?_
        refine V_lv (lv' := [(0, .ref (ad 0 0)), (1, .int a1), (4, .int z17), (5, .long z18), (7, .int 1)]) [1, 2, 3, 4, 0] rfl ?_
        refine sL_X9_isWay_119 hC hret (fun H45 h => ?_) _ z17 z18 1 H19 h
        refine V_iconst (v := 1) hC dX9_isWay_281 (by decide) ?_
        exact V_zret hC hret (by decide) dX9_isWay_282 h
      · have h := it_neg c6 h
        refine V_iconst (v := 0) hC dX9_isWay_30 (by decide) ?_
        exact V_zret hC hret (by decide) dX9_isWay_31 h
theorem c_X9_isWay (l : Launch) {nr : Nat} {a1 : Int32} {a2 : Int64} {H : Hp} {x : Int32} {H' : Hp} (h : f_X9_isWay a1 a2 H = some (x, H')) : CI l nr yX9_isWay cX9_isWay 10 (some .boolean) 2 42 (fun ad => [.ref (ad 0 0), .int a1, .long a2]) H x H' := by
  intro D K4 ad sz
  refine Met.ofV (by decide) (Nat.le_of_ble_eq_true rfl) ?_
  intro p e s m args below meth c hC hret hsz
  subst hsz
  exact s_X9_isWay hC hret h
theorem dX9_way_0 : decode cX9_way 0 = .ok (.aload_n 0, 1) := by decide +kernel
theorem dX9_way_1 : decode cX9_way 1 = .ok (.iconst 0, 1) := by decide +kernel
theorem dX9_way_2 : decode cX9_way 2 = .ok (.putfield 153, 3) := by decide +kernel
theorem dX9_way_5 : decode cX9_way 5 = .ok (.aload_n 0, 1) := by decide +kernel
theorem dX9_way_6 : decode cX9_way 6 = .ok (.iload_n 1, 1) := by decide +kernel
theorem dX9_way_7 : decode cX9_way 7 = .ok (.lload_n 2, 1) := by decide +kernel
theorem dX9_way_8 : decode cX9_way 8 = .ok (.invokevirtual 260, 3) := by decide +kernel
theorem dX9_way_11 : decode cX9_way 11 = .ok (.ifCond .eq 27, 3) := by decide +kernel
theorem dX9_way_14 : decode cX9_way 14 = .ok (.iload 4, 2) := by decide +kernel
theorem dX9_way_16 : decode cX9_way 16 = .ok (.ifCond .lt 22, 3) := by decide +kernel
theorem dX9_way_19 : decode cX9_way 19 = .ok (.iload 4, 2) := by decide +kernel
theorem dX9_way_21 : decode cX9_way 21 = .ok (.aload_n 0, 1) := by decide +kernel
theorem dX9_way_22 : decode cX9_way 22 = .ok (.getfield 257, 3) := by decide +kernel
theorem dX9_way_25 : decode cX9_way 25 = .ok (.if_icmp .ge 13, 3) := by decide +kernel
theorem dX9_way_28 : decode cX9_way 28 = .ok (.aload_n 0, 1) := by decide +kernel
theorem dX9_way_29 : decode cX9_way 29 = .ok (.getfield 126, 3) := by decide +kernel
theorem dX9_way_32 : decode cX9_way 32 = .ok (.iload 4, 2) := by decide +kernel
theorem dX9_way_34 : decode cX9_way 34 = .ok (.iaload, 1) := by decide +kernel
theorem dX9_way_35 : decode cX9_way 35 = .ok (.goto 4, 3) := by decide +kernel
theorem dX9_way_38 : decode cX9_way 38 = .ok (.iconst (-1), 1) := by decide +kernel
theorem dX9_way_39 : decode cX9_way 39 = .ok (.ireturn, 1) := by decide +kernel
def f_X9_way (a1 : Int32) (a2 : Int64) (a3 : Int32) (H : Hp) : Option (Int32 × Hp) := hl (sI H 0 0 34 0) (fun (H1 : Hp) => bnd (f_X9_isWay a1 a2 H1) (fun w3 H2 => if w3 = 0 then some ((-1), H2) else if a3 < 0 then some ((-1), H2) else if (gI H2 0 0 47) ≤ a3 then some ((-1), H2) else gd a3 21 (some ((gI H2 0 45 (Int32.toNatClampNeg a3)), H2))))
set_option maxRecDepth 100000 in
set_option maxHeartbeats 4000000 in
theorem s_X9_way {p : Program} {l : Launch} {e : Env} {s : State} {m : MethodId} {args : Array Value} {below : List Frame} {meth : Method} {c : Code} {A : Nat → Prop} {D : va_G} {K4 : kQ} {ad : Nat → Nat → Nat} {nr : Nat} {a1 : Int32} {a2 : Int64} {a3 : Int32} {H : Hp} {res : Int32 × Hp} (hC : Cx p s m args c A s.heap D K4 5 RX9 cX9_way) (hret : meth.sig.returnType = (some .int) ∧ meth.locks = false) (h : f_X9_way a1 a2 a3 H = some res) : V p l e ({ frames := 3, cells := 0, slots := 0, locals := 71 }) s m args below meth c A s.heap (QI below args s A D K4 ad nr res) D K4 ad nr 5 0 [(0, .ref (ad 0 0)), (1, .int a1), (2, .long a2), (4, .int a3)] [] H := by
  unfold f_X9_way at h
  refine V_aload_n hC 0 dX9_way_0 rfl ?_
  refine V_iconst (v := 0) hC dX9_way_1 (by decide) ?_
  refine V_putI (g := 0) (k := 0) hC 9 34 .int fw_X9_153 rfl rfl rfl rfl rfl dX9_way_2 ?_
  refine V_hl h (fun H1 h => ?_)
  refine V_aload_n hC 0 dX9_way_5 rfl ?_
  refine V_iload_n hC 1 dX9_way_6 rfl ?_
  refine V_lload_n hC 2 dX9_way_7 rfl ?_
  obtain ⟨w3, H2, hc, h⟩ := bnd_some h
  refine V_calli (g := 0) (k := 0) (As := [.int a1, .long a2]) (st := []) hC (c_X9_isWay l hc) rfl ml_X9_260 ⟨Nat.le_of_ble_eq_true rfl, Nat.le_of_ble_eq_true rfl⟩ rfl rfl rfl (Nat.le_of_ble_eq_true rfl) dX9_way_8 ?_
  refine V_if_eq (tgt := 38) hC dX9_way_11 (by decide) (fun c4 => ?_) (fun c4 => ?_)
  · have h := it_pos c4 h
    refine V_iconst (v := -1) hC dX9_way_38 (by decide) ?_
    exact V_iret hC hret dX9_way_39 h
  · have h := it_neg c4 h
    refine V_iload hC 3 dX9_way_14 rfl ?_
    refine V_if_lt (tgt := 38) hC dX9_way_16 (by decide) (fun c5 => ?_) (fun c5 => ?_)
    · have h := it_pos c5 h
      refine V_iconst (v := -1) hC dX9_way_38 (by decide) ?_
      exact V_iret hC hret dX9_way_39 h
    · have h := it_neg c5 h
      refine V_iload hC 3 dX9_way_19 rfl ?_
      refine V_aload_n hC 0 dX9_way_21 rfl ?_
      refine V_getI (g := 0) (k := 0) hC 9 47 fl_X9_257 rfl rfl rfl dX9_way_22 ?_
      refine V_icmp_ge (tgt := 38) hC dX9_way_25 (by decide) (fun c6 => ?_) (fun c6 => ?_)
      · have h := it_pos c6 h
        refine V_iconst (v := -1) hC dX9_way_38 (by decide) ?_
        exact V_iret hC hret dX9_way_39 h
      · have h := it_neg c6 h
        refine V_aload_n hC 0 dX9_way_28 rfl ?_
        refine V_getR (g := 0) (k := 0) (g' := 0) (k' := 45) hC 9 45 fl_X9_126 rfl rfl rfl rfl dX9_way_29 ?_
        refine V_iload hC 3 dX9_way_32 rfl ?_
        obtain ⟨hi, h⟩ := gd_some h
        refine V_iald (g := 0) (k := 45) hC rfl rfl hi dX9_way_34 ?_
        refine V_goto (tgt := 39) hC dX9_way_35 (by decide) ?_
        exact V_iret hC hret dX9_way_39 h
theorem c_X9_way (l : Launch) {nr : Nat} {a1 : Int32} {a2 : Int64} {a3 : Int32} {H : Hp} {x : Int32} {H' : Hp} (h : f_X9_way a1 a2 a3 H = some (x, H')) : CI l nr yX9_way cX9_way 5 (some .int) 3 71 (fun ad => [.ref (ad 0 0), .int a1, .long a2, .int a3]) H x H' := by
  intro D K4 ad sz
  refine Met.ofV (by decide) (Nat.le_of_ble_eq_true rfl) ?_
  intro p e s m args below meth c hC hret hsz
  subst hsz
  exact s_X9_way hC hret h
theorem dX9_along_0 : decode cX9_along 0 = .ok (.aload_n 0, 1) := by decide +kernel
theorem dX9_along_1 : decode cX9_along 1 = .ok (.iconst 0, 1) := by decide +kernel
theorem dX9_along_2 : decode cX9_along 2 = .ok (.putfield 153, 3) := by decide +kernel
theorem dX9_along_5 : decode cX9_along 5 = .ok (.aload_n 0, 1) := by decide +kernel
theorem dX9_along_6 : decode cX9_along 6 = .ok (.iload_n 1, 1) := by decide +kernel
theorem dX9_along_7 : decode cX9_along 7 = .ok (.lload_n 2, 1) := by decide +kernel
theorem dX9_along_8 : decode cX9_along 8 = .ok (.invokevirtual 260, 3) := by decide +kernel
theorem dX9_along_11 : decode cX9_along 11 = .ok (.ifCond .eq 27, 3) := by decide +kernel
theorem dX9_along_14 : decode cX9_along 14 = .ok (.iload 4, 2) := by decide +kernel
theorem dX9_along_16 : decode cX9_along 16 = .ok (.ifCond .lt 22, 3) := by decide +kernel
theorem dX9_along_19 : decode cX9_along 19 = .ok (.iload 4, 2) := by decide +kernel
theorem dX9_along_21 : decode cX9_along 21 = .ok (.aload_n 0, 1) := by decide +kernel
theorem dX9_along_22 : decode cX9_along 22 = .ok (.getfield 257, 3) := by decide +kernel
theorem dX9_along_25 : decode cX9_along 25 = .ok (.if_icmp .ge 13, 3) := by decide +kernel
theorem dX9_along_28 : decode cX9_along 28 = .ok (.aload_n 0, 1) := by decide +kernel
theorem dX9_along_29 : decode cX9_along 29 = .ok (.getfield 129, 3) := by decide +kernel
theorem dX9_along_32 : decode cX9_along 32 = .ok (.iload 4, 2) := by decide +kernel
theorem dX9_along_34 : decode cX9_along 34 = .ok (.iaload, 1) := by decide +kernel
theorem dX9_along_35 : decode cX9_along 35 = .ok (.goto 4, 3) := by decide +kernel
theorem dX9_along_38 : decode cX9_along 38 = .ok (.iconst (-1), 1) := by decide +kernel
theorem dX9_along_39 : decode cX9_along 39 = .ok (.ireturn, 1) := by decide +kernel
def f_X9_along (a1 : Int32) (a2 : Int64) (a3 : Int32) (H : Hp) : Option (Int32 × Hp) := hl (sI H 0 0 34 0) (fun (H1 : Hp) => bnd (f_X9_isWay a1 a2 H1) (fun w3 H2 => if w3 = 0 then some ((-1), H2) else if a3 < 0 then some ((-1), H2) else if (gI H2 0 0 47) ≤ a3 then some ((-1), H2) else gd a3 21 (some ((gI H2 0 46 (Int32.toNatClampNeg a3)), H2))))
set_option maxRecDepth 100000 in
set_option maxHeartbeats 4000000 in
theorem s_X9_along {p : Program} {l : Launch} {e : Env} {s : State} {m : MethodId} {args : Array Value} {below : List Frame} {meth : Method} {c : Code} {A : Nat → Prop} {D : va_G} {K4 : kQ} {ad : Nat → Nat → Nat} {nr : Nat} {a1 : Int32} {a2 : Int64} {a3 : Int32} {H : Hp} {res : Int32 × Hp} (hC : Cx p s m args c A s.heap D K4 5 RX9 cX9_along) (hret : meth.sig.returnType = (some .int) ∧ meth.locks = false) (h : f_X9_along a1 a2 a3 H = some res) : V p l e ({ frames := 3, cells := 0, slots := 0, locals := 71 }) s m args below meth c A s.heap (QI below args s A D K4 ad nr res) D K4 ad nr 5 0 [(0, .ref (ad 0 0)), (1, .int a1), (2, .long a2), (4, .int a3)] [] H := by
  unfold f_X9_along at h
  refine V_aload_n hC 0 dX9_along_0 rfl ?_
  refine V_iconst (v := 0) hC dX9_along_1 (by decide) ?_
  refine V_putI (g := 0) (k := 0) hC 9 34 .int fw_X9_153 rfl rfl rfl rfl rfl dX9_along_2 ?_
  refine V_hl h (fun H1 h => ?_)
  refine V_aload_n hC 0 dX9_along_5 rfl ?_
  refine V_iload_n hC 1 dX9_along_6 rfl ?_
  refine V_lload_n hC 2 dX9_along_7 rfl ?_
  obtain ⟨w3, H2, hc, h⟩ := bnd_some h
  refine V_calli (g := 0) (k := 0) (As := [.int a1, .long a2]) (st := []) hC (c_X9_isWay l hc) rfl ml_X9_260 ⟨Nat.le_of_ble_eq_true rfl, Nat.le_of_ble_eq_true rfl⟩ rfl rfl rfl (Nat.le_of_ble_eq_true rfl) dX9_along_8 ?_
  refine V_if_eq (tgt := 38) hC dX9_along_11 (by decide) (fun c4 => ?_) (fun c4 => ?_)
  · have h := it_pos c4 h
    refine V_iconst (v := -1) hC dX9_along_38 (by decide) ?_
    exact V_iret hC hret dX9_along_39 h
  · have h := it_neg c4 h
    refine V_iload hC 3 dX9_along_14 rfl ?_
    refine V_if_lt (tgt := 38) hC dX9_along_16 (by decide) (fun c5 => ?_) (fun c5 => ?_)
    · have h := it_pos c5 h
      refine V_iconst (v := -1) hC dX9_along_38 (by decide) ?_
      exact V_iret hC hret dX9_along_39 h
    · have h := it_neg c5 h
      refine V_iload hC 3 dX9_along_19 rfl ?_
      refine V_aload_n hC 0 dX9_along_21 rfl ?_
      refine V_getI (g := 0) (k := 0) hC 9 47 fl_X9_257 rfl rfl rfl dX9_along_22 ?_
      refine V_icmp_ge (tgt := 38) hC dX9_along_25 (by decide) (fun c6 => ?_) (fun c6 => ?_)
      · have h := it_pos c6 h
        refine V_iconst (v := -1) hC dX9_along_38 (by decide) ?_
        exact V_iret hC hret dX9_along_39 h
      · have h := it_neg c6 h
        refine V_aload_n hC 0 dX9_along_28 rfl ?_
        refine V_getR (g := 0) (k := 0) (g' := 0) (k' := 46) hC 9 46 fl_X9_129 rfl rfl rfl rfl dX9_along_29 ?_
        refine V_iload hC 3 dX9_along_32 rfl ?_
        obtain ⟨hi, h⟩ := gd_some h
        refine V_iald (g := 0) (k := 46) hC rfl rfl hi dX9_along_34 ?_
        refine V_goto (tgt := 39) hC dX9_along_35 (by decide) ?_
        exact V_iret hC hret dX9_along_39 h
theorem c_X9_along (l : Launch) {nr : Nat} {a1 : Int32} {a2 : Int64} {a3 : Int32} {H : Hp} {x : Int32} {H' : Hp} (h : f_X9_along a1 a2 a3 H = some (x, H')) : CI l nr yX9_along cX9_along 5 (some .int) 3 71 (fun ad => [.ref (ad 0 0), .int a1, .long a2, .int a3]) H x H' := by
  intro D K4 ad sz
  refine Met.ofV (by decide) (Nat.le_of_ble_eq_true rfl) ?_
  intro p e s m args below meth c hC hret hsz
  subst hsz
  exact s_X9_along hC hret h
theorem dX9_table_0 : decode cX9_table 0 = .ok (.aload_n 0, 1) := by decide +kernel
theorem dX9_table_1 : decode cX9_table 1 = .ok (.iconst 0, 1) := by decide +kernel
theorem dX9_table_2 : decode cX9_table 2 = .ok (.putfield 153, 3) := by decide +kernel
theorem dX9_table_5 : decode cX9_table 5 = .ok (.aload_n 0, 1) := by decide +kernel
theorem dX9_table_6 : decode cX9_table 6 = .ok (.iload_n 1, 1) := by decide +kernel
theorem dX9_table_7 : decode cX9_table 7 = .ok (.invokevirtual 208, 3) := by decide +kernel
theorem dX9_table_10 : decode cX9_table 10 = .ok (.ifCond .eq 17, 3) := by decide +kernel
theorem dX9_table_13 : decode cX9_table 13 = .ok (.iload_n 2, 1) := by decide +kernel
theorem dX9_table_14 : decode cX9_table 14 = .ok (.ifCond .lt 13, 3) := by decide +kernel
theorem dX9_table_17 : decode cX9_table 17 = .ok (.iload_n 2, 1) := by decide +kernel
theorem dX9_table_18 : decode cX9_table 18 = .ok (.aload_n 0, 1) := by decide +kernel
theorem dX9_table_19 : decode cX9_table 19 = .ok (.getfield 81, 3) := by decide +kernel
theorem dX9_table_22 : decode cX9_table 22 = .ok (.iload_n 1, 1) := by decide +kernel
theorem dX9_table_23 : decode cX9_table 23 = .ok (.iaload, 1) := by decide +kernel
theorem dX9_table_24 : decode cX9_table 24 = .ok (.if_icmp .lt 7, 3) := by decide +kernel
theorem dX9_table_27 : decode cX9_table 27 = .ok (.ldc2_w 189, 3) := by decide +kernel
theorem dX9_table_30 : decode cX9_table 30 = .ok (.lreturn, 1) := by decide +kernel
theorem dX9_table_31 : decode cX9_table 31 = .ok (.iload_n 3, 1) := by decide +kernel
theorem dX9_table_32 : decode cX9_table 32 = .ok (.ifCond .ne 17, 3) := by decide +kernel
theorem dX9_table_35 : decode cX9_table 35 = .ok (.aload_n 0, 1) := by decide +kernel
theorem dX9_table_36 : decode cX9_table 36 = .ok (.getfield 84, 3) := by decide +kernel
theorem dX9_table_39 : decode cX9_table 39 = .ok (.bipush 16, 2) := by decide +kernel
theorem dX9_table_41 : decode cX9_table 41 = .ok (.iload_n 1, 1) := by decide +kernel
theorem dX9_table_42 : decode cX9_table 42 = .ok (.imul, 1) := by decide +kernel
theorem dX9_table_43 : decode cX9_table 43 = .ok (.iload_n 2, 1) := by decide +kernel
theorem dX9_table_44 : decode cX9_table 44 = .ok (.iadd, 1) := by decide +kernel
theorem dX9_table_45 : decode cX9_table 45 = .ok (.laload, 1) := by decide +kernel
theorem dX9_table_46 : decode cX9_table 46 = .ok (.goto 25, 3) := by decide +kernel
theorem dX9_table_49 : decode cX9_table 49 = .ok (.iload_n 3, 1) := by decide +kernel
theorem dX9_table_50 : decode cX9_table 50 = .ok (.iconst 1, 1) := by decide +kernel
theorem dX9_table_51 : decode cX9_table 51 = .ok (.if_icmp .ne 17, 3) := by decide +kernel
theorem dX9_table_54 : decode cX9_table 54 = .ok (.aload_n 0, 1) := by decide +kernel
theorem dX9_table_55 : decode cX9_table 55 = .ok (.getfield 87, 3) := by decide +kernel
theorem dX9_table_58 : decode cX9_table 58 = .ok (.bipush 16, 2) := by decide +kernel
theorem dX9_table_60 : decode cX9_table 60 = .ok (.iload_n 1, 1) := by decide +kernel
theorem dX9_table_61 : decode cX9_table 61 = .ok (.imul, 1) := by decide +kernel
theorem dX9_table_62 : decode cX9_table 62 = .ok (.iload_n 2, 1) := by decide +kernel
theorem dX9_table_63 : decode cX9_table 63 = .ok (.iadd, 1) := by decide +kernel
theorem dX9_table_64 : decode cX9_table 64 = .ok (.laload, 1) := by decide +kernel
theorem dX9_table_65 : decode cX9_table 65 = .ok (.goto 6, 3) := by decide +kernel
theorem dX9_table_68 : decode cX9_table 68 = .ok (.ldc2_w 189, 3) := by decide +kernel
theorem dX9_table_71 : decode cX9_table 71 = .ok (.lreturn, 1) := by decide +kernel
def f_X9_table (a1 : Int32) (a2 : Int32) (a3 : Int32) (H : Hp) : Option (Int64 × Hp) := hl (sI H 0 0 34 0) (fun (H1 : Hp) => bnd (f_X9_isDone a1 H1) (fun w3 H2 => if w3 = 0 then some ((-1), H2) else if a2 < 0 then some ((-1), H2) else gd a1 8 (if a2 < (gI H2 0 24 (Int32.toNatClampNeg a1)) then if a3 = 0 then gd ((16 * a1) + a2) 128 (some ((gJ H2 0 25 (Int32.toNatClampNeg ((16 * a1) + a2))), H2)) else if a3 = 1 then gd ((16 * a1) + a2) 128 (some ((gJ H2 0 26 (Int32.toNatClampNeg ((16 * a1) + a2))), H2)) else some ((-1), H2) else some ((-1), H2))))
set_option maxRecDepth 100000 in
set_option maxHeartbeats 4000000 in
theorem s_X9_table {p : Program} {l : Launch} {e : Env} {s : State} {m : MethodId} {args : Array Value} {below : List Frame} {meth : Method} {c : Code} {A : Nat → Prop} {D : va_G} {K4 : kQ} {ad : Nat → Nat → Nat} {nr : Nat} {a1 : Int32} {a2 : Int32} {a3 : Int32} {H : Hp} {res : Int64 × Hp} (hC : Cx p s m args c A s.heap D K4 4 RX9 cX9_table) (hret : meth.sig.returnType = (some .long) ∧ meth.locks = false) (h : f_X9_table a1 a2 a3 H = some res) : V p l e ({ frames := 2, cells := 0, slots := 0, locals := 42 }) s m args below meth c A s.heap (QJ below args s A D K4 ad nr res) D K4 ad nr 4 0 [(0, .ref (ad 0 0)), (1, .int a1), (2, .int a2), (3, .int a3)] [] H := by
  unfold f_X9_table at h
  refine V_aload_n hC 0 dX9_table_0 rfl ?_
  refine V_iconst (v := 0) hC dX9_table_1 (by decide) ?_
  refine V_putI (g := 0) (k := 0) hC 9 34 .int fw_X9_153 rfl rfl rfl rfl rfl dX9_table_2 ?_
  refine V_hl h (fun H1 h => ?_)
  refine V_aload_n hC 0 dX9_table_5 rfl ?_
  refine V_iload_n hC 1 dX9_table_6 rfl ?_
  obtain ⟨w3, H2, hc, h⟩ := bnd_some h
  refine V_calli (g := 0) (k := 0) (As := [.int a1]) (st := []) hC (c_X9_isDone l hc) rfl ml_X9_208 ⟨Nat.le_of_ble_eq_true rfl, Nat.le_of_ble_eq_true rfl⟩ rfl rfl rfl (Nat.le_of_ble_eq_true rfl) dX9_table_7 ?_
  refine V_if_eq (tgt := 27) hC dX9_table_10 (by decide) (fun c4 => ?_) (fun c4 => ?_)
  · have h := it_pos c4 h
    refine V_ldc2 hC dX9_table_27 cl_X9_189 ?_
    exact V_lret hC hret dX9_table_30 h
  · have h := it_neg c4 h
    refine V_iload_n hC 2 dX9_table_13 rfl ?_
    refine V_if_lt (tgt := 27) hC dX9_table_14 (by decide) (fun c5 => ?_) (fun c5 => ?_)
    · have h := it_pos c5 h
      refine V_ldc2 hC dX9_table_27 cl_X9_189 ?_
      exact V_lret hC hret dX9_table_30 h
    · have h := it_neg c5 h
      refine V_iload_n hC 2 dX9_table_17 rfl ?_
      refine V_aload_n hC 0 dX9_table_18 rfl ?_
      refine V_getR (g := 0) (k := 0) (g' := 0) (k' := 24) hC 9 24 fl_X9_81 rfl rfl rfl rfl dX9_table_19 ?_
      refine V_iload_n hC 1 dX9_table_22 rfl ?_
      obtain ⟨hi, h⟩ := gd_some h
      refine V_iald (g := 0) (k := 24) hC rfl rfl hi dX9_table_23 ?_
      refine V_icmp_lt (tgt := 31) hC dX9_table_24 (by decide) (fun c6 => ?_) (fun c6 => ?_)
      · have h := it_pos c6 h
        refine V_iload_n hC 3 dX9_table_31 rfl ?_
        refine V_if_ne (tgt := 49) hC dX9_table_32 (by decide) (fun c7 => ?_) (fun c7 => ?_)
        · have h := it_neg c7 h
          refine V_iload_n hC 3 dX9_table_49 rfl ?_
          refine V_iconst (v := 1) hC dX9_table_50 (by decide) ?_
          refine V_icmp_ne (tgt := 68) hC dX9_table_51 (by decide) (fun c8 => ?_) (fun c8 => ?_)
          · have h := it_neg c8 h
            refine V_ldc2 hC dX9_table_68 cl_X9_189 ?_
            exact V_lret hC hret dX9_table_71 h
          · have h := it_pos c8 h
            refine V_aload_n hC 0 dX9_table_54 rfl ?_
            refine V_getR (g := 0) (k := 0) (g' := 0) (k' := 26) hC 9 26 fl_X9_87 rfl rfl rfl rfl dX9_table_55 ?_
            refine V_bipush (v := 16) hC dX9_table_58 (by decide) ?_
            refine V_iload_n hC 1 dX9_table_60 rfl ?_
            refine V_imul hC dX9_table_61 ?_
            refine V_iload_n hC 2 dX9_table_62 rfl ?_
            refine V_iadd hC dX9_table_63 ?_
            obtain ⟨hi, h⟩ := gd_some h
            refine V_lald (g := 0) (k := 26) hC rfl rfl hi dX9_table_64 ?_
            refine V_goto (tgt := 71) hC dX9_table_65 (by decide) ?_
            exact V_lret hC hret dX9_table_71 h
        · have h := it_pos c7 h
          refine V_aload_n hC 0 dX9_table_35 rfl ?_
          refine V_getR (g := 0) (k := 0) (g' := 0) (k' := 25) hC 9 25 fl_X9_84 rfl rfl rfl rfl dX9_table_36 ?_
          refine V_bipush (v := 16) hC dX9_table_39 (by decide) ?_
          refine V_iload_n hC 1 dX9_table_41 rfl ?_
          refine V_imul hC dX9_table_42 ?_
          refine V_iload_n hC 2 dX9_table_43 rfl ?_
          refine V_iadd hC dX9_table_44 ?_
          obtain ⟨hi, h⟩ := gd_some h
          refine V_lald (g := 0) (k := 25) hC rfl rfl hi dX9_table_45 ?_
          refine V_goto (tgt := 71) hC dX9_table_46 (by decide) ?_
          exact V_lret hC hret dX9_table_71 h
      · have h := it_neg c6 h
        refine V_ldc2 hC dX9_table_27 cl_X9_189 ?_
        exact V_lret hC hret dX9_table_30 h
theorem c_X9_table (l : Launch) {nr : Nat} {a1 : Int32} {a2 : Int32} {a3 : Int32} {H : Hp} {x : Int64} {H' : Hp} (h : f_X9_table a1 a2 a3 H = some (x, H')) : CJ l nr yX9_table cX9_table 4 (some .long) 2 42 (fun ad => [.ref (ad 0 0), .int a1, .int a2, .int a3]) H x H' := by
  intro D K4 ad sz
  refine Met.ofV (by decide) (Nat.le_of_ble_eq_true rfl) ?_
  intro p e s m args below meth c hC hret hsz
  subst hsz
  exact s_X9_table hC hret h
theorem dX9_told_0 : decode cX9_told 0 = .ok (.aload_n 0, 1) := by decide +kernel
theorem dX9_told_1 : decode cX9_told 1 = .ok (.iconst 0, 1) := by decide +kernel
theorem dX9_told_2 : decode cX9_told 2 = .ok (.putfield 153, 3) := by decide +kernel
theorem dX9_told_5 : decode cX9_told 5 = .ok (.aload_n 0, 1) := by decide +kernel
theorem dX9_told_6 : decode cX9_told 6 = .ok (.iload_n 1, 1) := by decide +kernel
theorem dX9_told_7 : decode cX9_told 7 = .ok (.invokevirtual 208, 3) := by decide +kernel
theorem dX9_told_10 : decode cX9_told 10 = .ok (.ifCond .eq 12, 3) := by decide +kernel
theorem dX9_told_13 : decode cX9_told 13 = .ok (.aload_n 0, 1) := by decide +kernel
theorem dX9_told_14 : decode cX9_told 14 = .ok (.iload_n 1, 1) := by decide +kernel
theorem dX9_told_15 : decode cX9_told 15 = .ok (.iload_n 2, 1) := by decide +kernel
theorem dX9_told_16 : decode cX9_told 16 = .ok (.invokevirtual 176, 3) := by decide +kernel
theorem dX9_told_19 : decode cX9_told 19 = .ok (.ifCond .ne 7, 3) := by decide +kernel
theorem dX9_told_22 : decode cX9_told 22 = .ok (.ldc2_w 189, 3) := by decide +kernel
theorem dX9_told_25 : decode cX9_told 25 = .ok (.lreturn, 1) := by decide +kernel
theorem dX9_told_26 : decode cX9_told 26 = .ok (.lconst 0, 1) := by decide +kernel
theorem dX9_told_27 : decode cX9_told 27 = .ok (.lstore_n 3, 1) := by decide +kernel
theorem dX9_told_28 : decode cX9_told 28 = .ok (.iconst 0, 1) := by decide +kernel
theorem dX9_told_29 : decode cX9_told 29 = .ok (.istore 5, 2) := by decide +kernel
theorem dX9_told_31 : decode cX9_told 31 = .ok (.iload 5, 2) := by decide +kernel
theorem dX9_told_33 : decode cX9_told 33 = .ok (.aload_n 0, 1) := by decide +kernel
theorem dX9_told_34 : decode cX9_told 34 = .ok (.getfield 81, 3) := by decide +kernel
theorem dX9_told_37 : decode cX9_told 37 = .ok (.iload_n 1, 1) := by decide +kernel
theorem dX9_told_38 : decode cX9_told 38 = .ok (.iaload, 1) := by decide +kernel
theorem dX9_told_39 : decode cX9_told 39 = .ok (.if_icmp .ge 76, 3) := by decide +kernel
theorem dX9_told_42 : decode cX9_told 42 = .ok (.aload_n 0, 1) := by decide +kernel
theorem dX9_told_43 : decode cX9_told 43 = .ok (.iload_n 1, 1) := by decide +kernel
theorem dX9_told_44 : decode cX9_told 44 = .ok (.aload_n 0, 1) := by decide +kernel
theorem dX9_told_45 : decode cX9_told 45 = .ok (.getfield 84, 3) := by decide +kernel
theorem dX9_told_48 : decode cX9_told 48 = .ok (.bipush 16, 2) := by decide +kernel
theorem dX9_told_50 : decode cX9_told 50 = .ok (.iload_n 1, 1) := by decide +kernel
theorem dX9_told_51 : decode cX9_told 51 = .ok (.imul, 1) := by decide +kernel
theorem dX9_told_52 : decode cX9_told 52 = .ok (.iload 5, 2) := by decide +kernel
theorem dX9_told_54 : decode cX9_told 54 = .ok (.iadd, 1) := by decide +kernel
theorem dX9_told_55 : decode cX9_told 55 = .ok (.laload, 1) := by decide +kernel
theorem dX9_told_56 : decode cX9_told 56 = .ok (.invokevirtual 260, 3) := by decide +kernel
theorem dX9_told_59 : decode cX9_told 59 = .ok (.istore 6, 2) := by decide +kernel
theorem dX9_told_61 : decode cX9_told 61 = .ok (.iconst 0, 1) := by decide +kernel
theorem dX9_told_62 : decode cX9_told 62 = .ok (.istore 7, 2) := by decide +kernel
theorem dX9_told_64 : decode cX9_told 64 = .ok (.iload 7, 2) := by decide +kernel
theorem dX9_told_66 : decode cX9_told 66 = .ok (.aload_n 0, 1) := by decide +kernel
theorem dX9_told_67 : decode cX9_told 67 = .ok (.getfield 257, 3) := by decide +kernel
theorem dX9_told_70 : decode cX9_told 70 = .ok (.if_icmp .ge 39, 3) := by decide +kernel
theorem dX9_told_73 : decode cX9_told 73 = .ok (.lload_n 3, 1) := by decide +kernel
theorem dX9_told_74 : decode cX9_told 74 = .ok (.aload_n 0, 1) := by decide +kernel
theorem dX9_told_75 : decode cX9_told 75 = .ok (.getfield 129, 3) := by decide +kernel
theorem dX9_told_78 : decode cX9_told 78 = .ok (.iload 7, 2) := by decide +kernel
theorem dX9_told_80 : decode cX9_told 80 = .ok (.iaload, 1) := by decide +kernel
theorem dX9_told_81 : decode cX9_told 81 = .ok (.iload_n 2, 1) := by decide +kernel
theorem dX9_told_82 : decode cX9_told 82 = .ok (.if_icmp .ne 18, 3) := by decide +kernel
theorem dX9_told_85 : decode cX9_told 85 = .ok (.aload_n 0, 1) := by decide +kernel
theorem dX9_told_86 : decode cX9_told 86 = .ok (.getfield 87, 3) := by decide +kernel
theorem dX9_told_89 : decode cX9_told 89 = .ok (.bipush 16, 2) := by decide +kernel
theorem dX9_told_91 : decode cX9_told 91 = .ok (.iload_n 1, 1) := by decide +kernel
theorem dX9_told_92 : decode cX9_told 92 = .ok (.imul, 1) := by decide +kernel
theorem dX9_told_93 : decode cX9_told 93 = .ok (.iload 5, 2) := by decide +kernel
theorem dX9_told_95 : decode cX9_told 95 = .ok (.iadd, 1) := by decide +kernel
theorem dX9_told_96 : decode cX9_told 96 = .ok (.laload, 1) := by decide +kernel
theorem dX9_told_97 : decode cX9_told 97 = .ok (.goto 4, 3) := by decide +kernel
theorem dX9_told_100 : decode cX9_told 100 = .ok (.lconst 0, 1) := by decide +kernel
theorem dX9_told_101 : decode cX9_told 101 = .ok (.ladd, 1) := by decide +kernel
theorem dX9_told_102 : decode cX9_told 102 = .ok (.lstore_n 3, 1) := by decide +kernel
theorem dX9_told_103 : decode cX9_told 103 = .ok (.iinc 7 1, 3) := by decide +kernel
theorem dX9_told_106 : decode cX9_told 106 = .ok (.goto (-42), 3) := by decide +kernel
theorem dX9_told_109 : decode cX9_told 109 = .ok (.iinc 5 1, 3) := by decide +kernel
theorem dX9_told_112 : decode cX9_told 112 = .ok (.goto (-81), 3) := by decide +kernel
theorem dX9_told_115 : decode cX9_told 115 = .ok (.lload_n 3, 1) := by decide +kernel
theorem dX9_told_116 : decode cX9_told 116 = .ok (.lreturn, 1) := by decide +kernel
def L_X9_told_64 (b1 : Int32) (b2 : Int32) (b5 : Int32) (k : Int64 → Hp → Option (Int64 × Hp)) : Nat → Int64 → Int32 → Hp → Option (Int64 × Hp)
  | 0, _, _, _ => none
  | n + 1, x3, x7, H => if (gI H 0 0 47) ≤ x7 then k x3 H else gd x7 21 (if (gI H 0 46 (Int32.toNatClampNeg x7)) = b2 then gd ((16 * b1) + b5) 128 (vl ((x3 + (gJ H 0 26 (Int32.toNatClampNeg ((16 * b1) + b5))))) (fun (v15 : Int64) => vl (x7 + (1 : Int32)) (fun (v16 : Int32) => L_X9_told_64 b1 b2 b5 k n v15 v16 H))) else vl ((x3 + 0)) (fun (v13 : Int64) => vl (x7 + (1 : Int32)) (fun (v14 : Int32) => L_X9_told_64 b1 b2 b5 k n v13 v14 H)))
set_option maxRecDepth 100000 in
set_option maxHeartbeats 4000000 in
theorem sL_X9_told_64 {p : Program} {l : Launch} {e : Env} {s : State} {m : MethodId} {args : Array Value} {below : List Frame} {meth : Method} {c : Code} {A : Nat → Prop} {D : va_G} {K4 : kQ} {ad : Nat → Nat → Nat} {nr : Nat} {b1 : Int32} {b2 : Int32} {b5 : Int32} {k : Int64 → Hp → Option (Int64 × Hp)} {res : Int64 × Hp} (hC : Cx p s m args c A s.heap D K4 8 RX9 cX9_told) (hret : meth.sig.returnType = (some .long) ∧ meth.locks = false) (hk : ∀ (z3 : Int64) (H : Hp), k z3 H = some res → V p l e ({ frames := 3, cells := 0, slots := 0, locals := 71 }) s m args below meth c A s.heap (QJ below args s A D K4 ad nr res) D K4 ad nr 8 109 [(0, .ref (ad 0 0)), (1, .int b1), (2, .int b2), (3, .long z3), (5, .int b5)] [] H) : ∀ (n : Nat) (x3 : Int64) (x7 : Int32) (H : Hp), L_X9_told_64 b1 b2 b5 k n x3 x7 H = some res → V p l e ({ frames := 3, cells := 0, slots := 0, locals := 71 }) s m args below meth c A s.heap (QJ below args s A D K4 ad nr res) D K4 ad nr 8 64 [(0, .ref (ad 0 0)), (1, .int b1), (2, .int b2), (3, .long x3), (5, .int b5), (7, .int x7)] [] H := by
  intro n
  induction n with
  | zero => intro x3 x7 H h; exact nomatch (show (none : Option (Int64 × Hp)) = some res from h)
  | succ n ih =>
    intro x3 x7 H h
    rw [L_X9_told_64] at h
    refine V_iload hC 5 dX9_told_64 rfl ?_
    refine V_aload_n hC 0 dX9_told_66 rfl ?_
    refine V_getI (g := 0) (k := 0) hC 9 47 fl_X9_257 rfl rfl rfl dX9_told_67 ?_
    refine V_icmp_ge (tgt := 109) hC dX9_told_70 (by decide) (fun c11 => ?_) (fun c11 => ?_)
    · have h := it_pos c11 h
      refine V_lv (lv' := [(0, .ref (ad 0 0)), (1, .int b1), (2, .int b2), (3, .long x3), (5, .int b5)]) [0, 1, 2, 3, 4] rfl ?_
      exact hk x3 H h
    · have h := it_neg c11 h
      refine V_lload_n hC 3 dX9_told_73 rfl ?_
      refine V_aload_n hC 0 dX9_told_74 rfl ?_
      refine V_getR (g := 0) (k := 0) (g' := 0) (k' := 46) hC 9 46 fl_X9_129 rfl rfl rfl rfl dX9_told_75 ?_
      refine V_iload hC 5 dX9_told_78 rfl ?_
      obtain ⟨hi, h⟩ := gd_some h
      refine V_iald (g := 0) (k := 46) hC rfl rfl hi dX9_told_80 ?_
      refine V_iload_n hC 2 dX9_told_81 rfl ?_
      refine V_icmp_ne (tgt := 100) hC dX9_told_82 (by decide) (fun c12 => ?_) (fun c12 => ?_)
      · have h := it_neg c12 h
        refine V_lconst (v := 0) hC dX9_told_100 (by decide) ?_
        refine V_ladd hC dX9_told_101 ?_
        refine V_vlJ h (fun v13 h => ?_)
        refine V_lstore_n (lv' := [(3, .long v13), (0, .ref (ad 0 0)), (1, .int b1), (2, .int b2), (5, .int b5), (7, .int x7)]) hC dX9_told_102 (Nat.le_of_ble_eq_true rfl) rfl ?_
        refine V_vi h (fun v14 hvv14 h => ?_)
        refine V_iinc (v := v14) (lv' := [(7, .int v14), (3, .long v13), (0, .ref (ad 0 0)), (1, .int b1), (2, .int b2), (5, .int b5)]) hC 5 dX9_told_103 rfl hvv14.symm (Nat.le_of_ble_eq_true rfl) rfl ?_
        refine V_goto (tgt := 64) hC dX9_told_106 (by decide) ?_
        refine V_lv (lv' := [(0, .ref (ad 0 0)), (1, .int b1), (2, .int b2), (3, .long v13), (5, .int b5), (7, .int v14)]) [2, 3, 4, 1, 5, 0] rfl ?_
        exact ih v13 v14 H h
      · have h := it_pos c12 h
        refine V_aload_n hC 0 dX9_told_85 rfl ?_
        refine V_getR (g := 0) (k := 0) (g' := 0) (k' := 26) hC 9 26 fl_X9_87 rfl rfl rfl rfl dX9_told_86 ?_
        refine V_bipush (v := 16) hC dX9_told_89 (by decide) ?_
        refine V_iload_n hC 1 dX9_told_91 rfl ?_
        refine V_imul hC dX9_told_92 ?_
        refine V_iload hC 4 dX9_told_93 rfl ?_
        refine V_iadd hC dX9_told_95 ?_
        obtain ⟨hi, h⟩ := gd_some h
        refine V_lald (g := 0) (k := 26) hC rfl rfl hi dX9_told_96 ?_
        refine V_goto (tgt := 101) hC dX9_told_97 (by decide) ?_
        refine V_ladd hC dX9_told_101 ?_
        refine V_vlJ h (fun v15 h => ?_)
        refine V_lstore_n (lv' := [(3, .long v15), (0, .ref (ad 0 0)), (1, .int b1), (2, .int b2), (5, .int b5), (7, .int x7)]) hC dX9_told_102 (Nat.le_of_ble_eq_true rfl) rfl ?_
        refine V_vi h (fun v16 hvv16 h => ?_)
        refine V_iinc (v := v16) (lv' := [(7, .int v16), (3, .long v15), (0, .ref (ad 0 0)), (1, .int b1), (2, .int b2), (5, .int b5)]) hC 5 dX9_told_103 rfl hvv16.symm (Nat.le_of_ble_eq_true rfl) rfl ?_
        refine V_goto (tgt := 64) hC dX9_told_106 (by decide) ?_
        refine V_lv (lv' := [(0, .ref (ad 0 0)), (1, .int b1), (2, .int b2), (3, .long v15), (5, .int b5), (7, .int v16)]) [2, 3, 4, 1, 5, 0] rfl ?_
        exact ih v15 v16 H h
def L_X9_told_31 (b1 : Int32) (b2 : Int32) (k : Int64 → Hp → Option (Int64 × Hp)) : Nat → Int64 → Int32 → Hp → Option (Int64 × Hp)
  | 0, _, _, _ => none
  | n + 1, x3, x5, H => gd b1 8 (if (gI H 0 24 (Int32.toNatClampNeg b1)) ≤ x5 then k x3 H else gd ((16 * b1) + x5) 128 (bnd (f_X9_isWay b1 (gJ H 0 25 (Int32.toNatClampNeg ((16 * b1) + x5))) H) (fun w10 H9 => L_X9_told_64 b1 b2 x5 (fun (z17 : Int64) (H18 : Hp) => vl (x5 + (1 : Int32)) (fun (v19 : Int32) => L_X9_told_31 b1 b2 k n z17 v19 H18)) FU x3 0 H9)))
set_option maxRecDepth 100000 in
set_option maxHeartbeats 4000000 in
theorem sL_X9_told_31 {p : Program} {l : Launch} {e : Env} {s : State} {m : MethodId} {args : Array Value} {below : List Frame} {meth : Method} {c : Code} {A : Nat → Prop} {D : va_G} {K4 : kQ} {ad : Nat → Nat → Nat} {nr : Nat} {b1 : Int32} {b2 : Int32} {k : Int64 → Hp → Option (Int64 × Hp)} {res : Int64 × Hp} (hC : Cx p s m args c A s.heap D K4 8 RX9 cX9_told) (hret : meth.sig.returnType = (some .long) ∧ meth.locks = false) (hk : ∀ (z3 : Int64) (H : Hp), k z3 H = some res → V p l e ({ frames := 3, cells := 0, slots := 0, locals := 71 }) s m args below meth c A s.heap (QJ below args s A D K4 ad nr res) D K4 ad nr 8 115 [(3, .long z3)] [] H) : ∀ (n : Nat) (x3 : Int64) (x5 : Int32) (H : Hp), L_X9_told_31 b1 b2 k n x3 x5 H = some res → V p l e ({ frames := 3, cells := 0, slots := 0, locals := 71 }) s m args below meth c A s.heap (QJ below args s A D K4 ad nr res) D K4 ad nr 8 31 [(0, .ref (ad 0 0)), (1, .int b1), (2, .int b2), (3, .long x3), (5, .int x5)] [] H := by
  intro n
  induction n with
  | zero => intro x3 x5 H h; exact nomatch (show (none : Option (Int64 × Hp)) = some res from h)
  | succ n ih =>
    intro x3 x5 H h
    rw [L_X9_told_31] at h
    refine V_iload hC 4 dX9_told_31 rfl ?_
    refine V_aload_n hC 0 dX9_told_33 rfl ?_
    refine V_getR (g := 0) (k := 0) (g' := 0) (k' := 24) hC 9 24 fl_X9_81 rfl rfl rfl rfl dX9_told_34 ?_
    refine V_iload_n hC 1 dX9_told_37 rfl ?_
    obtain ⟨hi, h⟩ := gd_some h
    refine V_iald (g := 0) (k := 24) hC rfl rfl hi dX9_told_38 ?_
    refine V_icmp_ge (tgt := 115) hC dX9_told_39 (by decide) (fun c8 => ?_) (fun c8 => ?_)
    · have h := it_pos c8 h
      refine V_lv (lv' := [(3, .long x3)]) [3] rfl ?_
      exact hk x3 H h
    · have h := it_neg c8 h
      refine V_aload_n hC 0 dX9_told_42 rfl ?_
      refine V_iload_n hC 1 dX9_told_43 rfl ?_
      refine V_aload_n hC 0 dX9_told_44 rfl ?_
      refine V_getR (g := 0) (k := 0) (g' := 0) (k' := 25) hC 9 25 fl_X9_84 rfl rfl rfl rfl dX9_told_45 ?_
      refine V_bipush (v := 16) hC dX9_told_48 (by decide) ?_
      refine V_iload_n hC 1 dX9_told_50 rfl ?_
      refine V_imul hC dX9_told_51 ?_
      refine V_iload hC 4 dX9_told_52 rfl ?_
      refine V_iadd hC dX9_told_54 ?_
      obtain ⟨hi, h⟩ := gd_some h
      refine V_lald (g := 0) (k := 25) hC rfl rfl hi dX9_told_55 ?_
      obtain ⟨w10, H9, hc, h⟩ := bnd_some h
      refine V_calli (g := 0) (k := 0) (As := [.int b1, .long (gJ H 0 25 (Int32.toNatClampNeg ((16 * b1) + x5)))]) (st := []) hC (c_X9_isWay l hc) rfl ml_X9_260 ⟨Nat.le_of_ble_eq_true rfl, Nat.le_of_ble_eq_true rfl⟩ rfl rfl rfl (Nat.le_of_ble_eq_true rfl) dX9_told_56 ?_
      refine V_istore (lv' := [(6, .int w10), (0, .ref (ad 0 0)), (1, .int b1), (2, .int b2), (3, .long x3), (5, .int x5)]) hC dX9_told_59 (Nat.le_of_ble_eq_true rfl) rfl ?_
      refine V_iconst (v := 0) hC dX9_told_61 (by decide) ?_
      refine V_istore (lv' := [(7, .int 0), (6, .int w10), (0, .ref (ad 0 0)), (1, .int b1), (2, .int b2), (3, .long x3), (5, .int x5)]) hC dX9_told_62 (Nat.le_of_ble_eq_true rfl) rfl ?_
      refine V_lv (lv' := [(0, .ref (ad 0 0)), (1, .int b1), (2, .int b2), (3, .long x3), (5, .int x5), (7, .int 0)]) [2, 3, 4, 5, 6, 0] rfl ?_
      refine sL_X9_told_64 hC hret (fun z17 H18 h => ?_) _ x3 0 H9 h
      refine V_vi h (fun v19 hvv19 h => ?_)
      refine V_iinc (v := v19) (lv' := [(5, .int v19), (0, .ref (ad 0 0)), (1, .int b1), (2, .int b2), (3, .long z17)]) hC 4 dX9_told_109 rfl hvv19.symm (Nat.le_of_ble_eq_true rfl) rfl ?_
      refine V_goto (tgt := 31) hC dX9_told_112 (by decide) ?_
      refine V_lv (lv' := [(0, .ref (ad 0 0)), (1, .int b1), (2, .int b2), (3, .long z17), (5, .int v19)]) [1, 2, 3, 4, 0] rfl ?_
      exact ih z17 v19 H18 h
def f_X9_told (a1 : Int32) (a2 : Int32) (H : Hp) : Option (Int64 × Hp) := hl (sI H 0 0 34 0) (fun (H1 : Hp) => bnd (f_X9_isDone a1 H1) (fun w3 H2 => if w3 = 0 then some ((-1), H2) else bnd (f_X9_isEdge a1 a2 H2) (fun w6 H5 => if w6 = 0 then some ((-1), H5) else L_X9_told_31 a1 a2 (fun (z20 : Int64) (H21 : Hp) => some (z20, H21)) FU 0 0 H5)))
set_option maxRecDepth 100000 in
set_option maxHeartbeats 4000000 in
theorem s_X9_told {p : Program} {l : Launch} {e : Env} {s : State} {m : MethodId} {args : Array Value} {below : List Frame} {meth : Method} {c : Code} {A : Nat → Prop} {D : va_G} {K4 : kQ} {ad : Nat → Nat → Nat} {nr : Nat} {a1 : Int32} {a2 : Int32} {H : Hp} {res : Int64 × Hp} (hC : Cx p s m args c A s.heap D K4 8 RX9 cX9_told) (hret : meth.sig.returnType = (some .long) ∧ meth.locks = false) (h : f_X9_told a1 a2 H = some res) : V p l e ({ frames := 3, cells := 0, slots := 0, locals := 71 }) s m args below meth c A s.heap (QJ below args s A D K4 ad nr res) D K4 ad nr 8 0 [(0, .ref (ad 0 0)), (1, .int a1), (2, .int a2)] [] H := by
  unfold f_X9_told at h
  refine V_aload_n hC 0 dX9_told_0 rfl ?_
  refine V_iconst (v := 0) hC dX9_told_1 (by decide) ?_
  refine V_putI (g := 0) (k := 0) hC 9 34 .int fw_X9_153 rfl rfl rfl rfl rfl dX9_told_2 ?_
  refine V_hl h (fun H1 h => ?_)
  refine V_aload_n hC 0 dX9_told_5 rfl ?_
  refine V_iload_n hC 1 dX9_told_6 rfl ?_
  obtain ⟨w3, H2, hc, h⟩ := bnd_some h
  refine V_calli (g := 0) (k := 0) (As := [.int a1]) (st := []) hC (c_X9_isDone l hc) rfl ml_X9_208 ⟨Nat.le_of_ble_eq_true rfl, Nat.le_of_ble_eq_true rfl⟩ rfl rfl rfl (Nat.le_of_ble_eq_true rfl) dX9_told_7 ?_
  refine V_if_eq (tgt := 22) hC dX9_told_10 (by decide) (fun c4 => ?_) (fun c4 => ?_)
  · have h := it_pos c4 h
    refine V_ldc2 hC dX9_told_22 cl_X9_189 ?_
    exact V_lret hC hret dX9_told_25 h
  · have h := it_neg c4 h
    refine V_aload_n hC 0 dX9_told_13 rfl ?_
    refine V_iload_n hC 1 dX9_told_14 rfl ?_
    refine V_iload_n hC 2 dX9_told_15 rfl ?_
    obtain ⟨w6, H5, hc, h⟩ := bnd_some h
    refine V_calli (g := 0) (k := 0) (As := [.int a1, .int a2]) (st := []) hC (c_X9_isEdge l hc) rfl ml_X9_176 ⟨Nat.le_of_ble_eq_true rfl, Nat.le_of_ble_eq_true rfl⟩ rfl rfl rfl (Nat.le_of_ble_eq_true rfl) dX9_told_16 ?_
    refine V_if_ne (tgt := 26) hC dX9_told_19 (by decide) (fun c7 => ?_) (fun c7 => ?_)
    · have h := it_neg c7 h
      refine V_lconst (v := 0) hC dX9_told_26 (by decide) ?_
      refine V_lstore_n (lv' := [(3, .long 0), (0, .ref (ad 0 0)), (1, .int a1), (2, .int a2)]) hC dX9_told_27 (Nat.le_of_ble_eq_true rfl) rfl ?_
      refine V_iconst (v := 0) hC dX9_told_28 (by decide) ?_
      refine V_istore (lv' := [(5, .int 0), (3, .long 0), (0, .ref (ad 0 0)), (1, .int a1), (2, .int a2)]) hC dX9_told_29 (Nat.le_of_ble_eq_true rfl) rfl ?_
      refine V_lv (lv' := [(0, .ref (ad 0 0)), (1, .int a1), (2, .int a2), (3, .long 0), (5, .int 0)]) [2, 3, 4, 1, 0] rfl ?_
      refine sL_X9_told_31 hC hret (fun z20 H21 h => ?_) _ 0 0 H5 h
      refine V_lload_n hC 0 dX9_told_115 rfl ?_
      exact V_lret hC hret dX9_told_116 h
    · have h := it_pos c7 h
      refine V_ldc2 hC dX9_told_22 cl_X9_189 ?_
      exact V_lret hC hret dX9_told_25 h
theorem c_X9_told (l : Launch) {nr : Nat} {a1 : Int32} {a2 : Int32} {H : Hp} {x : Int64} {H' : Hp} (h : f_X9_told a1 a2 H = some (x, H')) : CJ l nr yX9_told cX9_told 8 (some .long) 3 71 (fun ad => [.ref (ad 0 0), .int a1, .int a2]) H x H' := by
  intro D K4 ad sz
  refine Met.ofV (by decide) (Nat.le_of_ble_eq_true rfl) ?_
  intro p e s m args below meth c hC hret hsz
  subst hsz
  exact s_X9_told hC hret h
theorem dX9_blur_0 : decode cX9_blur 0 = .ok (.aload_n 0, 1) := by decide +kernel
theorem dX9_blur_1 : decode cX9_blur 1 = .ok (.iconst 0, 1) := by decide +kernel
theorem dX9_blur_2 : decode cX9_blur 2 = .ok (.putfield 153, 3) := by decide +kernel
theorem dX9_blur_5 : decode cX9_blur 5 = .ok (.aload_n 0, 1) := by decide +kernel
theorem dX9_blur_6 : decode cX9_blur 6 = .ok (.iload_n 1, 1) := by decide +kernel
theorem dX9_blur_7 : decode cX9_blur 7 = .ok (.iload_n 2, 1) := by decide +kernel
theorem dX9_blur_8 : decode cX9_blur 8 = .ok (.invokevirtual 176, 3) := by decide +kernel
theorem dX9_blur_11 : decode cX9_blur 11 = .ok (.ifCond .eq 13, 3) := by decide +kernel
theorem dX9_blur_14 : decode cX9_blur 14 = .ok (.iload_n 3, 1) := by decide +kernel
theorem dX9_blur_15 : decode cX9_blur 15 = .ok (.ifCond .lt 9, 3) := by decide +kernel
theorem dX9_blur_18 : decode cX9_blur 18 = .ok (.iload_n 3, 1) := by decide +kernel
theorem dX9_blur_19 : decode cX9_blur 19 = .ok (.ldc 164, 2) := by decide +kernel
theorem dX9_blur_21 : decode cX9_blur 21 = .ok (.if_icmp .le 5, 3) := by decide +kernel
theorem dX9_blur_24 : decode cX9_blur 24 = .ok (.iconst 0, 1) := by decide +kernel
theorem dX9_blur_25 : decode cX9_blur 25 = .ok (.ireturn, 1) := by decide +kernel
theorem dX9_blur_26 : decode cX9_blur 26 = .ok (.aload_n 0, 1) := by decide +kernel
theorem dX9_blur_27 : decode cX9_blur 27 = .ok (.getfield 38, 3) := by decide +kernel
theorem dX9_blur_30 : decode cX9_blur 30 = .ok (.bipush 40, 2) := by decide +kernel
theorem dX9_blur_32 : decode cX9_blur 32 = .ok (.iload_n 1, 1) := by decide +kernel
theorem dX9_blur_33 : decode cX9_blur 33 = .ok (.imul, 1) := by decide +kernel
theorem dX9_blur_34 : decode cX9_blur 34 = .ok (.iload_n 2, 1) := by decide +kernel
theorem dX9_blur_35 : decode cX9_blur 35 = .ok (.iadd, 1) := by decide +kernel
theorem dX9_blur_36 : decode cX9_blur 36 = .ok (.iload_n 3, 1) := by decide +kernel
theorem dX9_blur_37 : decode cX9_blur 37 = .ok (.iastore, 1) := by decide +kernel
theorem dX9_blur_38 : decode cX9_blur 38 = .ok (.iconst 1, 1) := by decide +kernel
theorem dX9_blur_39 : decode cX9_blur 39 = .ok (.ireturn, 1) := by decide +kernel
def f_X9_blur (a1 : Int32) (a2 : Int32) (a3 : Int32) (H : Hp) : Option (Int32 × Hp) := hl (sI H 0 0 34 0) (fun (H1 : Hp) => bnd (f_X9_isEdge a1 a2 H1) (fun w3 H2 => if w3 = 0 then some (0, H2) else if a3 < 0 then some (0, H2) else if a3 ≤ 1000000 then gd ((40 * a1) + a2) 320 (hl (sI H2 0 10 (Int32.toNatClampNeg ((40 * a1) + a2)) a3) (fun (H7 : Hp) => some (1, H7))) else some (0, H2)))
set_option maxRecDepth 100000 in
set_option maxHeartbeats 4000000 in
theorem s_X9_blur {p : Program} {l : Launch} {e : Env} {s : State} {m : MethodId} {args : Array Value} {below : List Frame} {meth : Method} {c : Code} {A : Nat → Prop} {D : va_G} {K4 : kQ} {ad : Nat → Nat → Nat} {nr : Nat} {a1 : Int32} {a2 : Int32} {a3 : Int32} {H : Hp} {res : Int32 × Hp} (hC : Cx p s m args c A s.heap D K4 4 RX9 cX9_blur) (hret : meth.sig.returnType = (some .boolean) ∧ meth.locks = false) (h : f_X9_blur a1 a2 a3 H = some res) : V p l e ({ frames := 2, cells := 0, slots := 0, locals := 43 }) s m args below meth c A s.heap (QI below args s A D K4 ad nr res) D K4 ad nr 4 0 [(0, .ref (ad 0 0)), (1, .int a1), (2, .int a2), (3, .int a3)] [] H := by
  unfold f_X9_blur at h
  refine V_aload_n hC 0 dX9_blur_0 rfl ?_
  refine V_iconst (v := 0) hC dX9_blur_1 (by decide) ?_
  refine V_putI (g := 0) (k := 0) hC 9 34 .int fw_X9_153 rfl rfl rfl rfl rfl dX9_blur_2 ?_
  refine V_hl h (fun H1 h => ?_)
  refine V_aload_n hC 0 dX9_blur_5 rfl ?_
  refine V_iload_n hC 1 dX9_blur_6 rfl ?_
  refine V_iload_n hC 2 dX9_blur_7 rfl ?_
  obtain ⟨w3, H2, hc, h⟩ := bnd_some h
  refine V_calli (g := 0) (k := 0) (As := [.int a1, .int a2]) (st := []) hC (c_X9_isEdge l hc) rfl ml_X9_176 ⟨Nat.le_of_ble_eq_true rfl, Nat.le_of_ble_eq_true rfl⟩ rfl rfl rfl (Nat.le_of_ble_eq_true rfl) dX9_blur_8 ?_
  refine V_if_eq (tgt := 24) hC dX9_blur_11 (by decide) (fun c4 => ?_) (fun c4 => ?_)
  · have h := it_pos c4 h
    refine V_iconst (v := 0) hC dX9_blur_24 (by decide) ?_
    exact V_zret hC hret (by decide) dX9_blur_25 h
  · have h := it_neg c4 h
    refine V_iload_n hC 3 dX9_blur_14 rfl ?_
    refine V_if_lt (tgt := 24) hC dX9_blur_15 (by decide) (fun c5 => ?_) (fun c5 => ?_)
    · have h := it_pos c5 h
      refine V_iconst (v := 0) hC dX9_blur_24 (by decide) ?_
      exact V_zret hC hret (by decide) dX9_blur_25 h
    · have h := it_neg c5 h
      refine V_iload_n hC 3 dX9_blur_18 rfl ?_
      refine V_ldc hC dX9_blur_19 cl_X9_164 ?_
      refine V_icmp_le (tgt := 26) hC dX9_blur_21 (by decide) (fun c6 => ?_) (fun c6 => ?_)
      · have h := it_pos c6 h
        refine V_aload_n hC 0 dX9_blur_26 rfl ?_
        refine V_getR (g := 0) (k := 0) (g' := 0) (k' := 10) hC 9 10 fl_X9_38 rfl rfl rfl rfl dX9_blur_27 ?_
        refine V_bipush (v := 40) hC dX9_blur_30 (by decide) ?_
        refine V_iload_n hC 1 dX9_blur_32 rfl ?_
        refine V_imul hC dX9_blur_33 ?_
        refine V_iload_n hC 2 dX9_blur_34 rfl ?_
        refine V_iadd hC dX9_blur_35 ?_
        refine V_iload_n hC 3 dX9_blur_36 rfl ?_
        obtain ⟨hi, h⟩ := gd_some h
        refine V_iast (g := 0) (k := 10) hC rfl rfl hi dX9_blur_37 ?_
        refine V_hl h (fun H7 h => ?_)
        refine V_iconst (v := 1) hC dX9_blur_38 (by decide) ?_
        exact V_zret hC hret (by decide) dX9_blur_39 h
      · have h := it_neg c6 h
        refine V_iconst (v := 0) hC dX9_blur_24 (by decide) ?_
        exact V_zret hC hret (by decide) dX9_blur_25 h
theorem c_X9_blur (l : Launch) {nr : Nat} {a1 : Int32} {a2 : Int32} {a3 : Int32} {H : Hp} {x : Int32} {H' : Hp} (h : f_X9_blur a1 a2 a3 H = some (x, H')) : CI l nr yX9_blur cX9_blur 4 (some .boolean) 2 43 (fun ad => [.ref (ad 0 0), .int a1, .int a2, .int a3]) H x H' := by
  intro D K4 ad sz
  refine Met.ofV (by decide) (Nat.le_of_ble_eq_true rfl) ?_
  intro p e s m args below meth c hC hret hsz
  subst hsz
  exact s_X9_blur hC hret h
theorem dX9_push_0 : decode cX9_push 0 = .ok (.aload_n 0, 1) := by decide +kernel
theorem dX9_push_1 : decode cX9_push 1 = .ok (.getfield 132, 3) := by decide +kernel
theorem dX9_push_4 : decode cX9_push 4 = .ok (.aload_n 0, 1) := by decide +kernel
theorem dX9_push_5 : decode cX9_push 5 = .ok (.getfield 264, 3) := by decide +kernel
theorem dX9_push_8 : decode cX9_push 8 = .ok (.iload_n 1, 1) := by decide +kernel
theorem dX9_push_9 : decode cX9_push 9 = .ok (.iastore, 1) := by decide +kernel
theorem dX9_push_10 : decode cX9_push 10 = .ok (.aload_n 0, 1) := by decide +kernel
theorem dX9_push_11 : decode cX9_push 11 = .ok (.getfield 135, 3) := by decide +kernel
theorem dX9_push_14 : decode cX9_push 14 = .ok (.aload_n 0, 1) := by decide +kernel
theorem dX9_push_15 : decode cX9_push 15 = .ok (.getfield 264, 3) := by decide +kernel
theorem dX9_push_18 : decode cX9_push 18 = .ok (.iload_n 2, 1) := by decide +kernel
theorem dX9_push_19 : decode cX9_push 19 = .ok (.iastore, 1) := by decide +kernel
theorem dX9_push_20 : decode cX9_push 20 = .ok (.aload_n 0, 1) := by decide +kernel
theorem dX9_push_21 : decode cX9_push 21 = .ok (.getfield 138, 3) := by decide +kernel
theorem dX9_push_24 : decode cX9_push 24 = .ok (.aload_n 0, 1) := by decide +kernel
theorem dX9_push_25 : decode cX9_push 25 = .ok (.getfield 264, 3) := by decide +kernel
theorem dX9_push_28 : decode cX9_push 28 = .ok (.lload_n 3, 1) := by decide +kernel
theorem dX9_push_29 : decode cX9_push 29 = .ok (.lastore, 1) := by decide +kernel
theorem dX9_push_30 : decode cX9_push 30 = .ok (.aload_n 0, 1) := by decide +kernel
theorem dX9_push_31 : decode cX9_push 31 = .ok (.getfield 141, 3) := by decide +kernel
theorem dX9_push_34 : decode cX9_push 34 = .ok (.aload_n 0, 1) := by decide +kernel
theorem dX9_push_35 : decode cX9_push 35 = .ok (.getfield 264, 3) := by decide +kernel
theorem dX9_push_38 : decode cX9_push 38 = .ok (.iload 5, 2) := by decide +kernel
theorem dX9_push_40 : decode cX9_push 40 = .ok (.iastore, 1) := by decide +kernel
theorem dX9_push_41 : decode cX9_push 41 = .ok (.aload_n 0, 1) := by decide +kernel
theorem dX9_push_42 : decode cX9_push 42 = .ok (.getfield 132, 3) := by decide +kernel
theorem dX9_push_45 : decode cX9_push 45 = .ok (.aload_n 0, 1) := by decide +kernel
theorem dX9_push_46 : decode cX9_push 46 = .ok (.getfield 264, 3) := by decide +kernel
theorem dX9_push_49 : decode cX9_push 49 = .ok (.iconst 1, 1) := by decide +kernel
theorem dX9_push_50 : decode cX9_push 50 = .ok (.iadd, 1) := by decide +kernel
theorem dX9_push_51 : decode cX9_push 51 = .ok (.iload_n 2, 1) := by decide +kernel
theorem dX9_push_52 : decode cX9_push 52 = .ok (.iastore, 1) := by decide +kernel
theorem dX9_push_53 : decode cX9_push 53 = .ok (.aload_n 0, 1) := by decide +kernel
theorem dX9_push_54 : decode cX9_push 54 = .ok (.getfield 135, 3) := by decide +kernel
theorem dX9_push_57 : decode cX9_push 57 = .ok (.aload_n 0, 1) := by decide +kernel
theorem dX9_push_58 : decode cX9_push 58 = .ok (.getfield 264, 3) := by decide +kernel
theorem dX9_push_61 : decode cX9_push 61 = .ok (.iconst 1, 1) := by decide +kernel
theorem dX9_push_62 : decode cX9_push 62 = .ok (.iadd, 1) := by decide +kernel
theorem dX9_push_63 : decode cX9_push 63 = .ok (.iload_n 1, 1) := by decide +kernel
theorem dX9_push_64 : decode cX9_push 64 = .ok (.iastore, 1) := by decide +kernel
theorem dX9_push_65 : decode cX9_push 65 = .ok (.aload_n 0, 1) := by decide +kernel
theorem dX9_push_66 : decode cX9_push 66 = .ok (.getfield 138, 3) := by decide +kernel
theorem dX9_push_69 : decode cX9_push 69 = .ok (.aload_n 0, 1) := by decide +kernel
theorem dX9_push_70 : decode cX9_push 70 = .ok (.getfield 264, 3) := by decide +kernel
theorem dX9_push_73 : decode cX9_push 73 = .ok (.iconst 1, 1) := by decide +kernel
theorem dX9_push_74 : decode cX9_push 74 = .ok (.iadd, 1) := by decide +kernel
theorem dX9_push_75 : decode cX9_push 75 = .ok (.lconst 0, 1) := by decide +kernel
theorem dX9_push_76 : decode cX9_push 76 = .ok (.lastore, 1) := by decide +kernel
theorem dX9_push_77 : decode cX9_push 77 = .ok (.aload_n 0, 1) := by decide +kernel
theorem dX9_push_78 : decode cX9_push 78 = .ok (.getfield 141, 3) := by decide +kernel
theorem dX9_push_81 : decode cX9_push 81 = .ok (.aload_n 0, 1) := by decide +kernel
theorem dX9_push_82 : decode cX9_push 82 = .ok (.getfield 264, 3) := by decide +kernel
theorem dX9_push_85 : decode cX9_push 85 = .ok (.iconst 1, 1) := by decide +kernel
theorem dX9_push_86 : decode cX9_push 86 = .ok (.iadd, 1) := by decide +kernel
theorem dX9_push_87 : decode cX9_push 87 = .ok (.iload 5, 2) := by decide +kernel
theorem dX9_push_89 : decode cX9_push 89 = .ok (.ineg, 1) := by decide +kernel
theorem dX9_push_90 : decode cX9_push 90 = .ok (.iastore, 1) := by decide +kernel
theorem dX9_push_91 : decode cX9_push 91 = .ok (.aload_n 0, 1) := by decide +kernel
theorem dX9_push_92 : decode cX9_push 92 = .ok (.dup, 1) := by decide +kernel
theorem dX9_push_93 : decode cX9_push 93 = .ok (.getfield 264, 3) := by decide +kernel
theorem dX9_push_96 : decode cX9_push 96 = .ok (.iconst 2, 1) := by decide +kernel
theorem dX9_push_97 : decode cX9_push 97 = .ok (.iadd, 1) := by decide +kernel
theorem dX9_push_98 : decode cX9_push 98 = .ok (.putfield 264, 3) := by decide +kernel
theorem dX9_push_101 : decode cX9_push 101 = .ok (.return_, 1) := by decide +kernel
def f_X9_push (a1 : Int32) (a2 : Int32) (a3 : Int64) (a4 : Int32) (H : Hp) : Option (Unit × Hp) := gd (gI H 0 0 52) 320 (hl (sI H 0 48 (Int32.toNatClampNeg (gI H 0 0 52)) a1) (fun (H1 : Hp) => gd (gI H1 0 0 52) 320 (hl (sI H1 0 49 (Int32.toNatClampNeg (gI H1 0 0 52)) a2) (fun (H2 : Hp) => gd (gI H2 0 0 52) 320 (hl (sJ H2 0 50 (Int32.toNatClampNeg (gI H2 0 0 52)) a3) (fun (H3 : Hp) => gd (gI H3 0 0 52) 320 (hl (sI H3 0 51 (Int32.toNatClampNeg (gI H3 0 0 52)) a4) (fun (H4 : Hp) => gd ((gI H4 0 0 52) + 1) 320 (hl (sI H4 0 48 (Int32.toNatClampNeg ((gI H4 0 0 52) + 1)) a2) (fun (H5 : Hp) => gd ((gI H5 0 0 52) + 1) 320 (hl (sI H5 0 49 (Int32.toNatClampNeg ((gI H5 0 0 52) + 1)) a1) (fun (H6 : Hp) => gd ((gI H6 0 0 52) + 1) 320 (hl (sJ H6 0 50 (Int32.toNatClampNeg ((gI H6 0 0 52) + 1)) 0) (fun (H7 : Hp) => gd ((gI H7 0 0 52) + 1) 320 (hl (sI H7 0 51 (Int32.toNatClampNeg ((gI H7 0 0 52) + 1)) (-a4)) (fun (H8 : Hp) => hl (sI H8 0 0 52 ((gI H8 0 0 52) + 2)) (fun (H9 : Hp) => some ((), H9))))))))))))))))))
set_option maxRecDepth 100000 in
set_option maxHeartbeats 4000000 in
theorem s_X9_push {p : Program} {l : Launch} {e : Env} {s : State} {m : MethodId} {args : Array Value} {below : List Frame} {meth : Method} {c : Code} {A : Nat → Prop} {D : va_G} {K4 : kQ} {ad : Nat → Nat → Nat} {nr : Nat} {a1 : Int32} {a2 : Int32} {a3 : Int64} {a4 : Int32} {H : Hp} {res : Unit × Hp} (hC : Cx p s m args c A s.heap D K4 6 RX9 cX9_push) (hret : meth.sig.returnType = none ∧ meth.locks = false) (h : f_X9_push a1 a2 a3 a4 H = some res) : V p l e ({ frames := 0, cells := 0, slots := 0, locals := 0 }) s m args below meth c A s.heap (QU below args s A D K4 ad nr res) D K4 ad nr 6 0 [(0, .ref (ad 0 0)), (1, .int a1), (2, .int a2), (3, .long a3), (5, .int a4)] [] H := by
  unfold f_X9_push at h
  refine V_aload_n hC 0 dX9_push_0 rfl ?_
  refine V_getR (g := 0) (k := 0) (g' := 0) (k' := 48) hC 9 48 fl_X9_132 rfl rfl rfl rfl dX9_push_1 ?_
  refine V_aload_n hC 0 dX9_push_4 rfl ?_
  refine V_getI (g := 0) (k := 0) hC 9 52 fl_X9_264 rfl rfl rfl dX9_push_5 ?_
  refine V_iload_n hC 1 dX9_push_8 rfl ?_
  obtain ⟨hi, h⟩ := gd_some h
  refine V_iast (g := 0) (k := 48) hC rfl rfl hi dX9_push_9 ?_
  refine V_hl h (fun H1 h => ?_)
  refine V_aload_n hC 0 dX9_push_10 rfl ?_
  refine V_getR (g := 0) (k := 0) (g' := 0) (k' := 49) hC 9 49 fl_X9_135 rfl rfl rfl rfl dX9_push_11 ?_
  refine V_aload_n hC 0 dX9_push_14 rfl ?_
  refine V_getI (g := 0) (k := 0) hC 9 52 fl_X9_264 rfl rfl rfl dX9_push_15 ?_
  refine V_iload_n hC 2 dX9_push_18 rfl ?_
  obtain ⟨hi, h⟩ := gd_some h
  refine V_iast (g := 0) (k := 49) hC rfl rfl hi dX9_push_19 ?_
  refine V_hl h (fun H2 h => ?_)
  refine V_aload_n hC 0 dX9_push_20 rfl ?_
  refine V_getR (g := 0) (k := 0) (g' := 0) (k' := 50) hC 9 50 fl_X9_138 rfl rfl rfl rfl dX9_push_21 ?_
  refine V_aload_n hC 0 dX9_push_24 rfl ?_
  refine V_getI (g := 0) (k := 0) hC 9 52 fl_X9_264 rfl rfl rfl dX9_push_25 ?_
  refine V_lload_n hC 3 dX9_push_28 rfl ?_
  obtain ⟨hi, h⟩ := gd_some h
  refine V_last (g := 0) (k := 50) hC rfl rfl hi dX9_push_29 ?_
  refine V_hl h (fun H3 h => ?_)
  refine V_aload_n hC 0 dX9_push_30 rfl ?_
  refine V_getR (g := 0) (k := 0) (g' := 0) (k' := 51) hC 9 51 fl_X9_141 rfl rfl rfl rfl dX9_push_31 ?_
  refine V_aload_n hC 0 dX9_push_34 rfl ?_
  refine V_getI (g := 0) (k := 0) hC 9 52 fl_X9_264 rfl rfl rfl dX9_push_35 ?_
  refine V_iload hC 4 dX9_push_38 rfl ?_
  obtain ⟨hi, h⟩ := gd_some h
  refine V_iast (g := 0) (k := 51) hC rfl rfl hi dX9_push_40 ?_
  refine V_hl h (fun H4 h => ?_)
  refine V_aload_n hC 0 dX9_push_41 rfl ?_
  refine V_getR (g := 0) (k := 0) (g' := 0) (k' := 48) hC 9 48 fl_X9_132 rfl rfl rfl rfl dX9_push_42 ?_
  refine V_aload_n hC 0 dX9_push_45 rfl ?_
  refine V_getI (g := 0) (k := 0) hC 9 52 fl_X9_264 rfl rfl rfl dX9_push_46 ?_
  refine V_iconst (v := 1) hC dX9_push_49 (by decide) ?_
  refine V_iadd hC dX9_push_50 ?_
  refine V_iload_n hC 2 dX9_push_51 rfl ?_
  obtain ⟨hi, h⟩ := gd_some h
  refine V_iast (g := 0) (k := 48) hC rfl rfl hi dX9_push_52 ?_
  refine V_hl h (fun H5 h => ?_)
  refine V_aload_n hC 0 dX9_push_53 rfl ?_
  refine V_getR (g := 0) (k := 0) (g' := 0) (k' := 49) hC 9 49 fl_X9_135 rfl rfl rfl rfl dX9_push_54 ?_
  refine V_aload_n hC 0 dX9_push_57 rfl ?_
  refine V_getI (g := 0) (k := 0) hC 9 52 fl_X9_264 rfl rfl rfl dX9_push_58 ?_
  refine V_iconst (v := 1) hC dX9_push_61 (by decide) ?_
  refine V_iadd hC dX9_push_62 ?_
  refine V_iload_n hC 1 dX9_push_63 rfl ?_
  obtain ⟨hi, h⟩ := gd_some h
  refine V_iast (g := 0) (k := 49) hC rfl rfl hi dX9_push_64 ?_
  refine V_hl h (fun H6 h => ?_)
  refine V_aload_n hC 0 dX9_push_65 rfl ?_
  refine V_getR (g := 0) (k := 0) (g' := 0) (k' := 50) hC 9 50 fl_X9_138 rfl rfl rfl rfl dX9_push_66 ?_
  refine V_aload_n hC 0 dX9_push_69 rfl ?_
  refine V_getI (g := 0) (k := 0) hC 9 52 fl_X9_264 rfl rfl rfl dX9_push_70 ?_
  refine V_iconst (v := 1) hC dX9_push_73 (by decide) ?_
  refine V_iadd hC dX9_push_74 ?_
  refine V_lconst (v := 0) hC dX9_push_75 (by decide) ?_
  obtain ⟨hi, h⟩ := gd_some h
  refine V_last (g := 0) (k := 50) hC rfl rfl hi dX9_push_76 ?_
  refine V_hl h (fun H7 h => ?_)
  refine V_aload_n hC 0 dX9_push_77 rfl ?_
  refine V_getR (g := 0) (k := 0) (g' := 0) (k' := 51) hC 9 51 fl_X9_141 rfl rfl rfl rfl dX9_push_78 ?_
  refine V_aload_n hC 0 dX9_push_81 rfl ?_
  refine V_getI (g := 0) (k := 0) hC 9 52 fl_X9_264 rfl rfl rfl dX9_push_82 ?_
  refine V_iconst (v := 1) hC dX9_push_85 (by decide) ?_
  refine V_iadd hC dX9_push_86 ?_
  refine V_iload hC 4 dX9_push_87 rfl ?_
  refine V_ineg hC dX9_push_89 ?_
  obtain ⟨hi, h⟩ := gd_some h
  refine V_iast (g := 0) (k := 51) hC rfl rfl hi dX9_push_90 ?_
  refine V_hl h (fun H8 h => ?_)
  refine V_aload_n hC 0 dX9_push_91 rfl ?_
  refine V_dup hC dX9_push_92 rfl ?_
  refine V_getI (g := 0) (k := 0) hC 9 52 fl_X9_264 rfl rfl rfl dX9_push_93 ?_
  refine V_iconst (v := 2) hC dX9_push_96 (by decide) ?_
  refine V_iadd hC dX9_push_97 ?_
  refine V_putI (g := 0) (k := 0) hC 9 52 .int fw_X9_264 rfl rfl rfl rfl rfl dX9_push_98 ?_
  refine V_hl h (fun H9 h => ?_)
  exact V_vret hC hret dX9_push_101 h
theorem c_X9_push (l : Launch) {nr : Nat} {a1 : Int32} {a2 : Int32} {a3 : Int64} {a4 : Int32} {H : Hp} {x : Unit} {H' : Hp} (h : f_X9_push a1 a2 a3 a4 H = some (x, H')) : CU l nr yX9_push cX9_push 6 none 0 0 (fun ad => [.ref (ad 0 0), .int a1, .int a2, .long a3, .int a4]) H x H' := by
  intro D K4 ad sz
  refine Met.ofV (by decide) (Nat.le_of_ble_eq_true rfl) ?_
  intro p e s m args below meth c hC hret hsz
  subst hsz
  exact s_X9_push hC hret h
