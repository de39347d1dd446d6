theorem d_Mo_init_0 : decode prog_7_method_17_code 0 = .ok (.aload_n 0, 1) := by decide +kernel
theorem d_Mo_init_1 : decode prog_7_method_17_code 1 = .ok (.invokespecial 147, 3) := by decide +kernel
theorem d_Mo_init_4 : decode prog_7_method_17_code 4 = .ok (.aload_n 0, 1) := by decide +kernel
theorem d_Mo_init_5 : decode prog_7_method_17_code 5 = .ok (.new 8, 3) := by decide +kernel
theorem d_Mo_init_8 : decode prog_7_method_17_code 8 = .ok (.dup, 1) := by decide +kernel
theorem d_Mo_init_9 : decode prog_7_method_17_code 9 = .ok (.invokespecial 152, 3) := by decide +kernel
theorem d_Mo_init_12 : decode prog_7_method_17_code 12 = .ok (.putfield 58, 3) := by decide +kernel
theorem d_Mo_init_15 : decode prog_7_method_17_code 15 = .ok (.aload_n 0, 1) := by decide +kernel
theorem d_Mo_init_16 : decode prog_7_method_17_code 16 = .ok (.new 8, 3) := by decide +kernel
theorem d_Mo_init_19 : decode prog_7_method_17_code 19 = .ok (.dup, 1) := by decide +kernel
theorem d_Mo_init_20 : decode prog_7_method_17_code 20 = .ok (.invokespecial 152, 3) := by decide +kernel
theorem d_Mo_init_23 : decode prog_7_method_17_code 23 = .ok (.putfield 27, 3) := by decide +kernel
theorem d_Mo_init_26 : decode prog_7_method_17_code 26 = .ok (.aload_n 0, 1) := by decide +kernel
theorem d_Mo_init_27 : decode prog_7_method_17_code 27 = .ok (.new 8, 3) := by decide +kernel
theorem d_Mo_init_30 : decode prog_7_method_17_code 30 = .ok (.dup, 1) := by decide +kernel
theorem d_Mo_init_31 : decode prog_7_method_17_code 31 = .ok (.invokespecial 152, 3) := by decide +kernel
theorem d_Mo_init_34 : decode prog_7_method_17_code 34 = .ok (.putfield 24, 3) := by decide +kernel
theorem d_Mo_init_37 : decode prog_7_method_17_code 37 = .ok (.aload_n 0, 1) := by decide +kernel
theorem d_Mo_init_38 : decode prog_7_method_17_code 38 = .ok (.new 8, 3) := by decide +kernel
theorem d_Mo_init_41 : decode prog_7_method_17_code 41 = .ok (.dup, 1) := by decide +kernel
theorem d_Mo_init_42 : decode prog_7_method_17_code 42 = .ok (.invokespecial 152, 3) := by decide +kernel
theorem d_Mo_init_45 : decode prog_7_method_17_code 45 = .ok (.putfield 17, 3) := by decide +kernel
theorem d_Mo_init_48 : decode prog_7_method_17_code 48 = .ok (.aload_n 0, 1) := by decide +kernel
theorem d_Mo_init_49 : decode prog_7_method_17_code 49 = .ok (.new 8, 3) := by decide +kernel
theorem d_Mo_init_52 : decode prog_7_method_17_code 52 = .ok (.dup, 1) := by decide +kernel
theorem d_Mo_init_53 : decode prog_7_method_17_code 53 = .ok (.invokespecial 152, 3) := by decide +kernel
theorem d_Mo_init_56 : decode prog_7_method_17_code 56 = .ok (.putfield 1, 3) := by decide +kernel
theorem d_Mo_init_59 : decode prog_7_method_17_code 59 = .ok (.aload_n 0, 1) := by decide +kernel
theorem d_Mo_init_60 : decode prog_7_method_17_code 60 = .ok (.new 8, 3) := by decide +kernel
theorem d_Mo_init_63 : decode prog_7_method_17_code 63 = .ok (.dup, 1) := by decide +kernel
theorem d_Mo_init_64 : decode prog_7_method_17_code 64 = .ok (.invokespecial 152, 3) := by decide +kernel
theorem d_Mo_init_67 : decode prog_7_method_17_code 67 = .ok (.putfield 65, 3) := by decide +kernel
theorem d_Mo_init_70 : decode prog_7_method_17_code 70 = .ok (.aload_n 0, 1) := by decide +kernel
theorem d_Mo_init_71 : decode prog_7_method_17_code 71 = .ok (.new 8, 3) := by decide +kernel
theorem d_Mo_init_74 : decode prog_7_method_17_code 74 = .ok (.dup, 1) := by decide +kernel
theorem d_Mo_init_75 : decode prog_7_method_17_code 75 = .ok (.invokespecial 152, 3) := by decide +kernel
theorem d_Mo_init_78 : decode prog_7_method_17_code 78 = .ok (.putfield 68, 3) := by decide +kernel
theorem d_Mo_init_81 : decode prog_7_method_17_code 81 = .ok (.aload_n 0, 1) := by decide +kernel
theorem d_Mo_init_82 : decode prog_7_method_17_code 82 = .ok (.new 8, 3) := by decide +kernel
theorem d_Mo_init_85 : decode prog_7_method_17_code 85 = .ok (.dup, 1) := by decide +kernel
theorem d_Mo_init_86 : decode prog_7_method_17_code 86 = .ok (.invokespecial 152, 3) := by decide +kernel
theorem d_Mo_init_89 : decode prog_7_method_17_code 89 = .ok (.putfield 82, 3) := by decide +kernel
theorem d_Mo_init_92 : decode prog_7_method_17_code 92 = .ok (.aload_n 0, 1) := by decide +kernel
theorem d_Mo_init_93 : decode prog_7_method_17_code 93 = .ok (.sipush 156, 3) := by decide +kernel
theorem d_Mo_init_96 : decode prog_7_method_17_code 96 = .ok (.anewarray 8, 3) := by decide +kernel
theorem d_Mo_init_99 : decode prog_7_method_17_code 99 = .ok (.putfield 34, 3) := by decide +kernel
theorem d_Mo_init_102 : decode prog_7_method_17_code 102 = .ok (.aload_n 0, 1) := by decide +kernel
theorem d_Mo_init_103 : decode prog_7_method_17_code 103 = .ok (.sipush 156, 3) := by decide +kernel
theorem d_Mo_init_106 : decode prog_7_method_17_code 106 = .ok (.newarray .int, 2) := by decide +kernel
theorem d_Mo_init_108 : decode prog_7_method_17_code 108 = .ok (.putfield 55, 3) := by decide +kernel
theorem d_Mo_init_111 : decode prog_7_method_17_code 111 = .ok (.aload_n 0, 1) := by decide +kernel
theorem d_Mo_init_112 : decode prog_7_method_17_code 112 = .ok (.bipush 13, 2) := by decide +kernel
theorem d_Mo_init_114 : decode prog_7_method_17_code 114 = .ok (.newarray .int, 2) := by decide +kernel
theorem d_Mo_init_116 : decode prog_7_method_17_code 116 = .ok (.putfield 108, 3) := by decide +kernel
theorem d_Mo_init_119 : decode prog_7_method_17_code 119 = .ok (.aload_n 0, 1) := by decide +kernel
theorem d_Mo_init_120 : decode prog_7_method_17_code 120 = .ok (.bipush 12, 2) := by decide +kernel
theorem d_Mo_init_122 : decode prog_7_method_17_code 122 = .ok (.newarray .int, 2) := by decide +kernel
theorem d_Mo_init_124 : decode prog_7_method_17_code 124 = .ok (.putfield 120, 3) := by decide +kernel
theorem d_Mo_init_127 : decode prog_7_method_17_code 127 = .ok (.aload_n 0, 1) := by decide +kernel
theorem d_Mo_init_128 : decode prog_7_method_17_code 128 = .ok (.bipush 12, 2) := by decide +kernel
theorem d_Mo_init_130 : decode prog_7_method_17_code 130 = .ok (.newarray .int, 2) := by decide +kernel
theorem d_Mo_init_132 : decode prog_7_method_17_code 132 = .ok (.putfield 117, 3) := by decide +kernel
theorem d_Mo_init_135 : decode prog_7_method_17_code 135 = .ok (.aload_n 0, 1) := by decide +kernel
theorem d_Mo_init_136 : decode prog_7_method_17_code 136 = .ok (.bipush 36, 2) := by decide +kernel
theorem d_Mo_init_138 : decode prog_7_method_17_code 138 = .ok (.anewarray 8, 3) := by decide +kernel
theorem d_Mo_init_141 : decode prog_7_method_17_code 141 = .ok (.putfield 140, 3) := by decide +kernel
theorem d_Mo_init_144 : decode prog_7_method_17_code 144 = .ok (.aload_n 0, 1) := by decide +kernel
theorem d_Mo_init_145 : decode prog_7_method_17_code 145 = .ok (.bipush 36, 2) := by decide +kernel
theorem d_Mo_init_147 : decode prog_7_method_17_code 147 = .ok (.newarray .int, 2) := by decide +kernel
theorem d_Mo_init_149 : decode prog_7_method_17_code 149 = .ok (.putfield 137, 3) := by decide +kernel
theorem d_Mo_init_152 : decode prog_7_method_17_code 152 = .ok (.aload_n 0, 1) := by decide +kernel
theorem d_Mo_init_153 : decode prog_7_method_17_code 153 = .ok (.iconst 4, 1) := by decide +kernel
theorem d_Mo_init_154 : decode prog_7_method_17_code 154 = .ok (.newarray .int, 2) := by decide +kernel
theorem d_Mo_init_156 : decode prog_7_method_17_code 156 = .ok (.putfield 153, 3) := by decide +kernel
theorem d_Mo_init_159 : decode prog_7_method_17_code 159 = .ok (.aload_n 0, 1) := by decide +kernel
theorem d_Mo_init_160 : decode prog_7_method_17_code 160 = .ok (.iconst 4, 1) := by decide +kernel
theorem d_Mo_init_161 : decode prog_7_method_17_code 161 = .ok (.newarray .int, 2) := by decide +kernel
theorem d_Mo_init_163 : decode prog_7_method_17_code 163 = .ok (.putfield 156, 3) := by decide +kernel
theorem d_Mo_init_166 : decode prog_7_method_17_code 166 = .ok (.aload_n 0, 1) := by decide +kernel
theorem d_Mo_init_167 : decode prog_7_method_17_code 167 = .ok (.iconst 4, 1) := by decide +kernel
theorem d_Mo_init_168 : decode prog_7_method_17_code 168 = .ok (.newarray .int, 2) := by decide +kernel
theorem d_Mo_init_170 : decode prog_7_method_17_code 170 = .ok (.putfield 159, 3) := by decide +kernel
theorem d_Mo_init_173 : decode prog_7_method_17_code 173 = .ok (.aload_n 0, 1) := by decide +kernel
theorem d_Mo_init_174 : decode prog_7_method_17_code 174 = .ok (.sipush 576, 3) := by decide +kernel
theorem d_Mo_init_177 : decode prog_7_method_17_code 177 = .ok (.newarray .int, 2) := by decide +kernel
theorem d_Mo_init_179 : decode prog_7_method_17_code 179 = .ok (.putfield 162, 3) := by decide +kernel
theorem d_Mo_init_182 : decode prog_7_method_17_code 182 = .ok (.aload_n 0, 1) := by decide +kernel
theorem d_Mo_init_183 : decode prog_7_method_17_code 183 = .ok (.iconst 4, 1) := by decide +kernel
theorem d_Mo_init_184 : decode prog_7_method_17_code 184 = .ok (.newarray .boolean, 2) := by decide +kernel
theorem d_Mo_init_186 : decode prog_7_method_17_code 186 = .ok (.putfield 165, 3) := by decide +kernel
theorem d_Mo_init_189 : decode prog_7_method_17_code 189 = .ok (.aload_n 0, 1) := by decide +kernel
theorem d_Mo_init_190 : decode prog_7_method_17_code 190 = .ok (.iconst 4, 1) := by decide +kernel
theorem d_Mo_init_191 : decode prog_7_method_17_code 191 = .ok (.newarray .int, 2) := by decide +kernel
theorem d_Mo_init_193 : decode prog_7_method_17_code 193 = .ok (.putfield 169, 3) := by decide +kernel
theorem d_Mo_init_196 : decode prog_7_method_17_code 196 = .ok (.aload_n 0, 1) := by decide +kernel
theorem d_Mo_init_197 : decode prog_7_method_17_code 197 = .ok (.sipush 16384, 3) := by decide +kernel
theorem d_Mo_init_200 : decode prog_7_method_17_code 200 = .ok (.newarray .byte, 2) := by decide +kernel
theorem d_Mo_init_202 : decode prog_7_method_17_code 202 = .ok (.putfield 172, 3) := by decide +kernel
theorem d_Mo_init_205 : decode prog_7_method_17_code 205 = .ok (.aload_n 0, 1) := by decide +kernel
theorem d_Mo_init_206 : decode prog_7_method_17_code 206 = .ok (.sipush 16384, 3) := by decide +kernel
theorem d_Mo_init_209 : decode prog_7_method_17_code 209 = .ok (.newarray .byte, 2) := by decide +kernel
theorem d_Mo_init_211 : decode prog_7_method_17_code 211 = .ok (.putfield 176, 3) := by decide +kernel
theorem d_Mo_init_214 : decode prog_7_method_17_code 214 = .ok (.aload_n 0, 1) := by decide +kernel
theorem d_Mo_init_215 : decode prog_7_method_17_code 215 = .ok (.sipush 4096, 3) := by decide +kernel
theorem d_Mo_init_218 : decode prog_7_method_17_code 218 = .ok (.newarray .int, 2) := by decide +kernel
theorem d_Mo_init_220 : decode prog_7_method_17_code 220 = .ok (.putfield 179, 3) := by decide +kernel
theorem d_Mo_init_223 : decode prog_7_method_17_code 223 = .ok (.aload_n 0, 1) := by decide +kernel
theorem d_Mo_init_224 : decode prog_7_method_17_code 224 = .ok (.sipush 4096, 3) := by decide +kernel
theorem d_Mo_init_227 : decode prog_7_method_17_code 227 = .ok (.newarray .int, 2) := by decide +kernel
theorem d_Mo_init_229 : decode prog_7_method_17_code 229 = .ok (.putfield 182, 3) := by decide +kernel
theorem d_Mo_init_232 : decode prog_7_method_17_code 232 = .ok (.aload_n 0, 1) := by decide +kernel
theorem d_Mo_init_233 : decode prog_7_method_17_code 233 = .ok (.sipush 169, 3) := by decide +kernel
theorem d_Mo_init_236 : decode prog_7_method_17_code 236 = .ok (.newarray .long, 2) := by decide +kernel
theorem d_Mo_init_238 : decode prog_7_method_17_code 238 = .ok (.putfield 185, 3) := by decide +kernel
theorem d_Mo_init_241 : decode prog_7_method_17_code 241 = .ok (.aload_n 0, 1) := by decide +kernel
theorem d_Mo_init_242 : decode prog_7_method_17_code 242 = .ok (.sipush 169, 3) := by decide +kernel
theorem d_Mo_init_245 : decode prog_7_method_17_code 245 = .ok (.newarray .long, 2) := by decide +kernel
theorem d_Mo_init_247 : decode prog_7_method_17_code 247 = .ok (.putfield 189, 3) := by decide +kernel
theorem d_Mo_init_250 : decode prog_7_method_17_code 250 = .ok (.aload_n 0, 1) := by decide +kernel
theorem d_Mo_init_251 : decode prog_7_method_17_code 251 = .ok (.bipush 13, 2) := by decide +kernel
theorem d_Mo_init_253 : decode prog_7_method_17_code 253 = .ok (.newarray .int, 2) := by decide +kernel
theorem d_Mo_init_255 : decode prog_7_method_17_code 255 = .ok (.putfield 192, 3) := by decide +kernel
theorem d_Mo_init_258 : decode prog_7_method_17_code 258 = .ok (.iconst 0, 1) := by decide +kernel
theorem d_Mo_init_259 : decode prog_7_method_17_code 259 = .ok (.istore_n 1, 1) := by decide +kernel
theorem d_Mo_init_260 : decode prog_7_method_17_code 260 = .ok (.iload_n 1, 1) := by decide +kernel
theorem d_Mo_init_261 : decode prog_7_method_17_code 261 = .ok (.sipush 156, 3) := by decide +kernel
theorem d_Mo_init_264 : decode prog_7_method_17_code 264 = .ok (.if_icmp .ge 22, 3) := by decide +kernel
theorem d_Mo_init_267 : decode prog_7_method_17_code 267 = .ok (.aload_n 0, 1) := by decide +kernel
theorem d_Mo_init_268 : decode prog_7_method_17_code 268 = .ok (.getfield 34, 3) := by decide +kernel
theorem d_Mo_init_271 : decode prog_7_method_17_code 271 = .ok (.iload_n 1, 1) := by decide +kernel
theorem d_Mo_init_272 : decode prog_7_method_17_code 272 = .ok (.new 8, 3) := by decide +kernel
theorem d_Mo_init_275 : decode prog_7_method_17_code 275 = .ok (.dup, 1) := by decide +kernel
theorem d_Mo_init_276 : decode prog_7_method_17_code 276 = .ok (.invokespecial 152, 3) := by decide +kernel
theorem d_Mo_init_279 : decode prog_7_method_17_code 279 = .ok (.aastore, 1) := by decide +kernel
theorem d_Mo_init_280 : decode prog_7_method_17_code 280 = .ok (.iinc 1 1, 3) := by decide +kernel
theorem d_Mo_init_283 : decode prog_7_method_17_code 283 = .ok (.goto (-23), 3) := by decide +kernel
theorem d_Mo_init_286 : decode prog_7_method_17_code 286 = .ok (.iconst 0, 1) := by decide +kernel
theorem d_Mo_init_287 : decode prog_7_method_17_code 287 = .ok (.istore_n 1, 1) := by decide +kernel
theorem d_Mo_init_288 : decode prog_7_method_17_code 288 = .ok (.iload_n 1, 1) := by decide +kernel
theorem d_Mo_init_289 : decode prog_7_method_17_code 289 = .ok (.bipush 36, 2) := by decide +kernel
theorem d_Mo_init_291 : decode prog_7_method_17_code 291 = .ok (.if_icmp .ge 22, 3) := by decide +kernel
theorem d_Mo_init_294 : decode prog_7_method_17_code 294 = .ok (.aload_n 0, 1) := by decide +kernel
theorem d_Mo_init_295 : decode prog_7_method_17_code 295 = .ok (.getfield 140, 3) := by decide +kernel
theorem d_Mo_init_298 : decode prog_7_method_17_code 298 = .ok (.iload_n 1, 1) := by decide +kernel
theorem d_Mo_init_299 : decode prog_7_method_17_code 299 = .ok (.new 8, 3) := by decide +kernel
theorem d_Mo_init_302 : decode prog_7_method_17_code 302 = .ok (.dup, 1) := by decide +kernel
theorem d_Mo_init_303 : decode prog_7_method_17_code 303 = .ok (.invokespecial 152, 3) := by decide +kernel
theorem d_Mo_init_306 : decode prog_7_method_17_code 306 = .ok (.aastore, 1) := by decide +kernel
theorem d_Mo_init_307 : decode prog_7_method_17_code 307 = .ok (.iinc 1 1, 3) := by decide +kernel
theorem d_Mo_init_310 : decode prog_7_method_17_code 310 = .ok (.goto (-22), 3) := by decide +kernel
theorem d_Mo_init_313 : decode prog_7_method_17_code 313 = .ok (.iconst 0, 1) := by decide +kernel
theorem d_Mo_init_314 : decode prog_7_method_17_code 314 = .ok (.istore_n 1, 1) := by decide +kernel
theorem d_Mo_init_315 : decode prog_7_method_17_code 315 = .ok (.iconst 0, 1) := by decide +kernel
theorem d_Mo_init_316 : decode prog_7_method_17_code 316 = .ok (.istore_n 2, 1) := by decide +kernel
theorem d_Mo_init_317 : decode prog_7_method_17_code 317 = .ok (.iload_n 2, 1) := by decide +kernel
theorem d_Mo_init_318 : decode prog_7_method_17_code 318 = .ok (.bipush 12, 2) := by decide +kernel
theorem d_Mo_init_320 : decode prog_7_method_17_code 320 = .ok (.if_icmp .gt 18, 3) := by decide +kernel
theorem d_Mo_init_323 : decode prog_7_method_17_code 323 = .ok (.aload_n 0, 1) := by decide +kernel
theorem d_Mo_init_324 : decode prog_7_method_17_code 324 = .ok (.iload_n 2, 1) := by decide +kernel
theorem d_Mo_init_325 : decode prog_7_method_17_code 325 = .ok (.iconst 0, 1) := by decide +kernel
theorem d_Mo_init_326 : decode prog_7_method_17_code 326 = .ok (.iconst 0, 1) := by decide +kernel
theorem d_Mo_init_327 : decode prog_7_method_17_code 327 = .ok (.iload_n 1, 1) := by decide +kernel
theorem d_Mo_init_328 : decode prog_7_method_17_code 328 = .ok (.invokevirtual 195, 3) := by decide +kernel
theorem d_Mo_init_331 : decode prog_7_method_17_code 331 = .ok (.istore_n 1, 1) := by decide +kernel
theorem d_Mo_init_332 : decode prog_7_method_17_code 332 = .ok (.iinc 2 1, 3) := by decide +kernel
theorem d_Mo_init_335 : decode prog_7_method_17_code 335 = .ok (.goto (-18), 3) := by decide +kernel
theorem d_Mo_init_338 : decode prog_7_method_17_code 338 = .ok (.return_, 1) := by decide +kernel
/-- the reference's cells, its numbers aside -/
def wB (q : Nat → Nat) (cI cJ cB cZ cN : ClassId) (f1 f2 : Nat → Option Nat) : va_W := [((q 0), .inr (6, [.ref (q 1), .ref (q 3), .ref (q 5), .ref (q 7), .ref (q 9), .ref (q 11), .ref (q 13), .ref (q 15), .ref (q 17), .ref (q 18), .int 0, .int 0, .int 0, .ref (q 19), .ref (q 20), .ref (q 21), .ref (q 22), .ref (q 23), .ref (q 24), .ref (q 25), .ref (q 26), .ref (q 27), .ref (q 28), .ref (q 29), .ref (q 30), .ref (q 31), .ref (q 32), .ref (q 33), .ref (q 34), .ref (q 35), .ref (q 36)])), ((q 1), .inr (5, [.ref (q 2), .int 0, .int 0])), ((q 2), .inl (cI, 160, .inl (fun _ => 0))), ((q 3), .inr (5, [.ref (q 4), .int 0, .int 0])), ((q 4), .inl (cI, 160, .inl (fun _ => 0))), ((q 5), .inr (5, [.ref (q 6), .int 0, .int 0])), ((q 6), .inl (cI, 160, .inl (fun _ => 0))), ((q 7), .inr (5, [.ref (q 8), .int 0, .int 0])), ((q 8), .inl (cI, 160, .inl (fun _ => 0))), ((q 9), .inr (5, [.ref (q 10), .int 0, .int 0])), ((q 10), .inl (cI, 160, .inl (fun _ => 0))), ((q 11), .inr (5, [.ref (q 12), .int 0, .int 0])), ((q 12), .inl (cI, 160, .inl (fun _ => 0))), ((q 13), .inr (5, [.ref (q 14), .int 0, .int 0])), ((q 14), .inl (cI, 160, .inl (fun _ => 0))), ((q 15), .inr (5, [.ref (q 16), .int 0, .int 0])), ((q 16), .inl (cI, 160, .inl (fun _ => 0))), ((q 17), .inl (cN, 156, .inr (.inr (.inr (.inr f1))))), ((q 18), .inl (cI, 156, .inl (fun _ => 0))), ((q 19), .inl (cI, 13, .inl (fun _ => 0))), ((q 20), .inl (cI, 12, .inl (fun _ => 0))), ((q 21), .inl (cI, 12, .inl (fun _ => 0))), ((q 22), .inl (cN, 36, .inr (.inr (.inr (.inr f2))))), ((q 23), .inl (cI, 36, .inl (fun _ => 0))), ((q 24), .inl (cI, 4, .inl (fun _ => 0))), ((q 25), .inl (cI, 4, .inl (fun _ => 0))), ((q 26), .inl (cI, 4, .inl (fun _ => 0))), ((q 27), .inl (cI, 576, .inl (fun _ => 0))), ((q 28), .inl (cZ, 4, .inl (fun _ => 0))), ((q 29), .inl (cI, 4, .inl (fun _ => 0))), ((q 30), .inl (cB, 16384, .inl (fun _ => 0))), ((q 31), .inl (cB, 16384, .inl (fun _ => 0))), ((q 32), .inl (cI, 4096, .inl (fun _ => 0))), ((q 33), .inl (cI, 4096, .inl (fun _ => 0))), ((q 34), .inl (cJ, 169, .inr (.inl (fun _ => 0)))), ((q 35), .inl (cJ, 169, .inr (.inl (fun _ => 0)))), ((q 36), .inl (cI, 13, .inl (fun _ => 0)))]
def nc (cI : ClassId) (NA ND : Nat → Nat) (k : Nat) : va_W := [(NA k, .inr (5, [.ref (ND k), .int 0, .int 0])), (ND k, .inl (cI, 160, .inl (fun _ => 0)))]
def pl (cI : ClassId) (NA ND : Nat → Nat) : Nat → va_W
  | 0 => []
  | k + 1 => pl cI NA ND k ++ nc cI NA ND k
def fq (NA : Nat → Nat) (o i : Nat) : Nat → Option Nat := fun k => if k < i then some (NA (o + k)) else none
theorem pl_len {cI : ClassId} {NA ND : Nat → Nat} {n : Nat} : (pl cI NA ND n).length = 2 * n := by
  induction n with
  | zero => rfl
  | succ n ih => show (pl cI NA ND n ++ nc cI NA ND n).length = _; rw [List.length_append, ih]; show 2 * n + 2 = _; omega
theorem pl_kup {cI : ClassId} {NA ND : Nat → Nat} {n k a d : Nat} (h : n ≤ k) : pl cI (kup NA k a) (kup ND k d) n = pl cI NA ND n := by
  induction n with
  | zero => rfl
  | succ n ih =>
    show pl cI (kup NA k a) (kup ND k d) n ++ nc cI (kup NA k a) (kup ND k d) n = _
    rw [ih (by omega)]
    unfold nc
    rw [kup_n (show n ≠ k by omega), kup_n (show n ≠ k by omega)]; rfl
theorem pl_s {cI : ClassId} {NA ND : Nat → Nat} {n a d : Nat} : pl cI NA ND n ++ [(a, .inr (5, [.ref d, .int 0, .int 0])), (d, .inl (cI, 160, .inl (fun _ => 0)))] = pl cI (kup NA n a) (kup ND n d) (n + 1) := by
  show _ = pl cI (kup NA n a) (kup ND n d) n ++ nc cI (kup NA n a) (kup ND n d) n
  rw [pl_kup (Nat.le_refl n)]
  unfold nc
  rw [kup_s, kup_s]
theorem fq_s {NA : Nat → Nat} {o i a : Nat} {x : Int32} (hx : x.toNatClampNeg = i) : va_up (fq NA o i) x.toNatClampNeg (some a) = fq (kup NA (o + i) a) o (i + 1) := by
  rw [hx]
  funext k
  unfold va_up fq
  by_cases q : k = i
  · subst q; rw [if_pos rfl, if_pos (by omega), kup_s]
  · rw [if_neg q]
    by_cases q1 : k < i
    · rw [if_pos q1, if_pos (by omega), kup_n (by omega)]
    · rw [if_neg q1, if_neg (by omega)]
theorem fq_k {NA : Nat → Nat} {o i k a : Nat} (h : o + i ≤ k) : fq (kup NA k a) o i = fq NA o i := by
  funext j
  unfold fq
  by_cases q : j < i
  · rw [if_pos q, if_pos q, kup_n (by omega)]
  · rw [if_neg q, if_neg q]
set_option maxHeartbeats 4000000 in
theorem lp_work {p : Program} {l : Launch} {e : Env} {s : State} {m : MethodId} {AR : Array Value} {below : List Frame} {meth : Method} {c : Code} {Q : State → Prop} {A : Nat → Prop} {dC : Nat → ClassId} {dI : Nat → Nat → Nat} {cI cJ cB cZ cT cN : ClassId} {q : Nat → Nat}
    (hx : p.tables.exec = Jvm.exec) (hb : c.code = prog_7_method_17_code) (hml : c.maxLocals = 3) (hown : s.vm.findClass "BasisWalkModel" = some m.cls) (hts : ∀ w ∈ w_Mo_init, w.before AR s = true) (hN : NW s)
    (hK : va_K (dC, dI) cl_all [(cI, .int), (cJ, .long), (cB, .byte), (cZ, .boolean), (cT, .object "BasisWalk$Table"), (cN, .object "BasisWalkModel$Num")] s) (hA : ∀ q : Nat, s.heap.size ≤ q → A q)
    (kk : ∀ (NA ND : Nat → Nat) (H : Heap) (locs : List Loc) (ls : Array Slot), lv_has ls 3 [(1, .int (nI 156)), (0, .ref (q 0))] → va_P (dC, dI) cl_all (wB q cI cJ cB cZ cN (fq NA 0 156) (fun _ => none) ++ pl cI NA ND (0 + 156)) H → va_D A (wB q cI cJ cB cZ cN (fq NA 0 156) (fun _ => none) ++ pl cI NA ND (0 + 156)) → va_S A s.heap H locs → W p l e ({ frames := 13, cells := 420, slots := 74928, locals := 350 } : Room) s m AR below meth c H locs (36 + 2 * (0 + 156)) (43632 + 163 * (0 + 156)) Q (F0 m 286 ls [])) :
    ∀ (d i : Nat), i + d = 156 → ∀ (NA ND : Nat → Nat) (H : Heap) (locs : List Loc) (ls : Array Slot), lv_has ls 3 [(1, .int (nI i)), (0, .ref (q 0))] → va_P (dC, dI) cl_all (wB q cI cJ cB cZ cN (fq NA 0 i) (fun _ => none) ++ pl cI NA ND (0 + i)) H → va_D A (wB q cI cJ cB cZ cN (fq NA 0 i) (fun _ => none) ++ pl cI NA ND (0 + i)) → va_S A s.heap H locs → W p l e ({ frames := 13, cells := 420, slots := 74928, locals := 350 } : Room) s m AR below meth c H locs (36 + 2 * (0 + i)) (43632 + 163 * (0 + i)) Q (F0 m 260 ls []) := by
  have fl := hts _ (List.mem_cons_of_mem _ tw_363)
  have iw := (fun w hw => List.mem_cons_of_mem _ (in_Mo w hw) : ∀ w ∈ u_ws "BasisWalkModel" T_Mo 31, w ∈ w_Mo_init)
  intro d
  induction d with
  | zero =>
    intro i hi NA ND H locs ls hl hP hD hS
    obtain rfl : i = 156 := by omega
    refine lv_iload_n hx hb d_Mo_init_260 rfl (lv_at hl 0 rfl) ?_
    refine lv_sipush (v := 156) hx hb d_Mo_init_261 (by decide) ?_
    refine lv_icmp_ge (tgt := 286) hx hb d_Mo_init_264 (by decide) (fun _ => ?_) (fun c => absurd (by decide) c)
    exact kk NA ND H locs ls hl hP hD hS
  | succ d ih =>
    intro i hi NA ND H locs ls hl hP hD hS
    refine lv_iload_n hx hb d_Mo_init_260 rfl (lv_at hl 0 rfl) ?_
    refine lv_sipush (v := 156) hx hb d_Mo_init_261 (by decide) ?_
    refine lv_icmp_ge (tgt := 286) hx hb d_Mo_init_264 (by decide) (fun c => absurd ((nI_leI (a := 156) (b := i) (by omega) (by omega)).mp c) (by omega)) (fun _ => ?_)
    refine lv_aload_n hx hb d_Mo_init_267 rfl (lv_at hl 1 rfl) ?_
    refine va_get (D := (dC, dI)) (ci := 6) (v := .ref (q 17)) (C := "BasisWalkModel") (T := T_Mo) (N := 31) hx hb hts iw hown hK hP 0 rfl rfl 8 (by decide) fl (fun _ h9 => h9) rfl d_Mo_init_268 ?_
    refine lv_iload_n hx hb d_Mo_init_271 rfl (lv_at hl 0 rfl) ?_
    refine mk_num hx hb hml hown hts hN hK hP hD hS hA hl (by omega) (by omega) d_Mo_init_272 d_Mo_init_275 d_Mo_init_276 (fun q1 d1 H locs hP hD hS => ?_)
    rw [List.append_assoc, pl_s] at hP hD
    have hv : (wB q cI cJ cB cZ cN (fq NA 0 i) (fun _ => none) ++ pl cI (kup NA (0 + i) q1) (kup ND (0 + i) d1) (0 + i + 1))[37 + 2 * (0 + i)]? = some (q1, .inr (5, [.ref d1, .int 0, .int 0])) := by
      rw [← pl_s, ← List.append_assoc, List.getElem?_append_right (by rw [List.length_append, pl_len]; exact Nat.le_refl _)]
      rw [List.length_append, pl_len, show 37 + 2 * (0 + i) - ((wB q cI cJ cB cZ cN (fq NA 0 i) (fun _ => none)).length + 2 * (0 + i)) = 0 from Nat.sub_self _]
      rfl
    refine va_astq hx hb hK hP hD hS 17 5 (37 + 2 * (0 + i)) 5 rfl rfl hv rfl (pk_in i 156 (by omega)) d_Mo_init_279 (fun H locs hP hD hS => ?_)
    rw [fq_s (nI_clamp (by omega))] at hP hD
    refine lv_iinc (v := nI i + 1) (lv' := [(1, .int (nI i + 1)), (0, .ref (q 0))]) hx hb d_Mo_init_280 hl (k := 0) rfl rfl (by decide) rfl (fun ls hl => ?_)
    refine lv_goto (tgt := 260) hx hb d_Mo_init_283 (by decide) ?_
    rw [nI_1] at hl
    rw [show (36 + 2 * (0 + i)) + 1 + 1 = (36 + 2 * (0 + (i + 1))) by omega, show (43632 + 163 * (0 + i)) + 3 + 160 = (43632 + 163 * (0 + (i + 1))) by omega]
    refine ih (i + 1) (by omega) (kup NA (0 + i) q1) (kup ND (0 + i) d1) H locs ls hl ?_ ?_ hS
    · exact hP
    · exact hD
set_option maxHeartbeats 4000000 in
theorem lp_minor {p : Program} {l : Launch} {e : Env} {s : State} {m : MethodId} {AR : Array Value} {below : List Frame} {meth : Method} {c : Code} {Q : State → Prop} {A : Nat → Prop} {dC : Nat → ClassId} {dI : Nat → Nat → Nat} {cI cJ cB cZ cT cN : ClassId} {q : Nat → Nat}
    (hx : p.tables.exec = Jvm.exec) (hb : c.code = prog_7_method_17_code) (hml : c.maxLocals = 3) (hown : s.vm.findClass "BasisWalkModel" = some m.cls) (hts : ∀ w ∈ w_Mo_init, w.before AR s = true) (hN : NW s)
    (hK : va_K (dC, dI) cl_all [(cI, .int), (cJ, .long), (cB, .byte), (cZ, .boolean), (cT, .object "BasisWalk$Table"), (cN, .object "BasisWalkModel$Num")] s) (hA : ∀ q : Nat, s.heap.size ≤ q → A q)
    (kk : ∀ (NA ND : Nat → Nat) (H : Heap) (locs : List Loc) (ls : Array Slot), lv_has ls 3 [(1, .int (nI 36)), (0, .ref (q 0))] → va_P (dC, dI) cl_all (wB q cI cJ cB cZ cN (fq NA 0 156) (fq NA 156 36) ++ pl cI NA ND (156 + 36)) H → va_D A (wB q cI cJ cB cZ cN (fq NA 0 156) (fq NA 156 36) ++ pl cI NA ND (156 + 36)) → va_S A s.heap H locs → W p l e ({ frames := 13, cells := 420, slots := 74928, locals := 350 } : Room) s m AR below meth c H locs (36 + 2 * (156 + 36)) (43632 + 163 * (156 + 36)) Q (F0 m 313 ls [])) :
    ∀ (d i : Nat), i + d = 36 → ∀ (NA ND : Nat → Nat) (H : Heap) (locs : List Loc) (ls : Array Slot), lv_has ls 3 [(1, .int (nI i)), (0, .ref (q 0))] → va_P (dC, dI) cl_all (wB q cI cJ cB cZ cN (fq NA 0 156) (fq NA 156 i) ++ pl cI NA ND (156 + i)) H → va_D A (wB q cI cJ cB cZ cN (fq NA 0 156) (fq NA 156 i) ++ pl cI NA ND (156 + i)) → va_S A s.heap H locs → W p l e ({ frames := 13, cells := 420, slots := 74928, locals := 350 } : Room) s m AR below meth c H locs (36 + 2 * (156 + i)) (43632 + 163 * (156 + i)) Q (F0 m 288 ls []) := by
  have fl := hts _ (List.mem_cons_of_mem _ tw_371)
  have iw := (fun w hw => List.mem_cons_of_mem _ (in_Mo w hw) : ∀ w ∈ u_ws "BasisWalkModel" T_Mo 31, w ∈ w_Mo_init)
  intro d
  induction d with
  | zero =>
    intro i hi NA ND H locs ls hl hP hD hS
    obtain rfl : i = 36 := by omega
    refine lv_iload_n hx hb d_Mo_init_288 rfl (lv_at hl 0 rfl) ?_
    refine lv_bipush (v := 36) hx hb d_Mo_init_289 (by decide) ?_
    refine lv_icmp_ge (tgt := 313) hx hb d_Mo_init_291 (by decide) (fun _ => ?_) (fun c => absurd (by decide) c)
    exact kk NA ND H locs ls hl hP hD hS
  | succ d ih =>
    intro i hi NA ND H locs ls hl hP hD hS
    refine lv_iload_n hx hb d_Mo_init_288 rfl (lv_at hl 0 rfl) ?_
    refine lv_bipush (v := 36) hx hb d_Mo_init_289 (by decide) ?_
    refine lv_icmp_ge (tgt := 313) hx hb d_Mo_init_291 (by decide) (fun c => absurd ((nI_leI (a := 36) (b := i) (by omega) (by omega)).mp c) (by omega)) (fun _ => ?_)
    refine lv_aload_n hx hb d_Mo_init_294 rfl (lv_at hl 1 rfl) ?_
    refine va_get (D := (dC, dI)) (ci := 6) (v := .ref (q 22)) (C := "BasisWalkModel") (T := T_Mo) (N := 31) hx hb hts iw hown hK hP 0 rfl rfl 16 (by decide) fl (fun _ h9 => h9) rfl d_Mo_init_295 ?_
    refine lv_iload_n hx hb d_Mo_init_298 rfl (lv_at hl 0 rfl) ?_
    refine mk_num hx hb hml hown hts hN hK hP hD hS hA hl (by omega) (by omega) d_Mo_init_299 d_Mo_init_302 d_Mo_init_303 (fun q1 d1 H locs hP hD hS => ?_)
    rw [List.append_assoc, pl_s] at hP hD
    have hv : (wB q cI cJ cB cZ cN (fq NA 0 156) (fq NA 156 i) ++ pl cI (kup NA (156 + i) q1) (kup ND (156 + i) d1) (156 + i + 1))[37 + 2 * (156 + i)]? = some (q1, .inr (5, [.ref d1, .int 0, .int 0])) := by
      rw [← pl_s, ← List.append_assoc, List.getElem?_append_right (by rw [List.length_append, pl_len]; exact Nat.le_refl _)]
      rw [List.length_append, pl_len, show 37 + 2 * (156 + i) - ((wB q cI cJ cB cZ cN (fq NA 0 156) (fq NA 156 i)).length + 2 * (156 + i)) = 0 from Nat.sub_self _]
      rfl
    refine va_astq hx hb hK hP hD hS 22 5 (37 + 2 * (156 + i)) 5 rfl rfl hv rfl (pk_in i 36 (by omega)) d_Mo_init_306 (fun H locs hP hD hS => ?_)
    rw [fq_s (nI_clamp (by omega))] at hP hD
    refine lv_iinc (v := nI i + 1) (lv' := [(1, .int (nI i + 1)), (0, .ref (q 0))]) hx hb d_Mo_init_307 hl (k := 0) rfl rfl (by decide) rfl (fun ls hl => ?_)
    refine lv_goto (tgt := 288) hx hb d_Mo_init_310 (by decide) ?_
    rw [nI_1] at hl
    rw [show (36 + 2 * (156 + i)) + 1 + 1 = (36 + 2 * (156 + (i + 1))) by omega, show (43632 + 163 * (156 + i)) + 3 + 160 = (43632 + 163 * (156 + (i + 1))) by omega]
    refine ih (i + 1) (by omega) (kup NA (156 + i) q1) (kup ND (156 + i) d1) H locs ls hl ?_ ?_ hS
    · rw [fq_k (show 0 + 156 ≤ 156 + i by omega)]; exact hP
    · rw [fq_k (show 0 + 156 ≤ 156 + i by omega)]; exact hD
