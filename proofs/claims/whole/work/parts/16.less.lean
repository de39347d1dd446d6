theorem d_Nu_less_0 : decode prog_8_method_10_code 0 = .ok (.aload_n 2, 1) := by decide +kernel
theorem d_Nu_less_1 : decode prog_8_method_10_code 1 = .ok (.getfield 13, 3) := by decide +kernel
theorem d_Nu_less_4 : decode prog_8_method_10_code 4 = .ok (.ifCond .le 14, 3) := by decide +kernel
theorem d_Nu_less_7 : decode prog_8_method_10_code 7 = .ok (.aload_n 2, 1) := by decide +kernel
theorem d_Nu_less_8 : decode prog_8_method_10_code 8 = .ok (.getfield 17, 3) := by decide +kernel
theorem d_Nu_less_11 : decode prog_8_method_10_code 11 = .ok (.ifCond .ne 7, 3) := by decide +kernel
theorem d_Nu_less_14 : decode prog_8_method_10_code 14 = .ok (.iconst 1, 1) := by decide +kernel
theorem d_Nu_less_15 : decode prog_8_method_10_code 15 = .ok (.goto 4, 3) := by decide +kernel
theorem d_Nu_less_18 : decode prog_8_method_10_code 18 = .ok (.iconst 0, 1) := by decide +kernel
theorem d_Nu_less_19 : decode prog_8_method_10_code 19 = .ok (.istore_n 3, 1) := by decide +kernel
theorem d_Nu_less_20 : decode prog_8_method_10_code 20 = .ok (.aload_n 1, 1) := by decide +kernel
theorem d_Nu_less_21 : decode prog_8_method_10_code 21 = .ok (.getfield 13, 3) := by decide +kernel
theorem d_Nu_less_24 : decode prog_8_method_10_code 24 = .ok (.ifCond .eq 18, 3) := by decide +kernel
theorem d_Nu_less_27 : decode prog_8_method_10_code 27 = .ok (.aload_n 2, 1) := by decide +kernel
theorem d_Nu_less_28 : decode prog_8_method_10_code 28 = .ok (.getfield 13, 3) := by decide +kernel
theorem d_Nu_less_31 : decode prog_8_method_10_code 31 = .ok (.ifCond .eq 11, 3) := by decide +kernel
theorem d_Nu_less_34 : decode prog_8_method_10_code 34 = .ok (.aload_n 1, 1) := by decide +kernel
theorem d_Nu_less_35 : decode prog_8_method_10_code 35 = .ok (.getfield 17, 3) := by decide +kernel
theorem d_Nu_less_38 : decode prog_8_method_10_code 38 = .ok (.iload_n 3, 1) := by decide +kernel
theorem d_Nu_less_39 : decode prog_8_method_10_code 39 = .ok (.if_icmp .ne 152, 3) := by decide +kernel
theorem d_Nu_less_42 : decode prog_8_method_10_code 42 = .ok (.aload_n 1, 1) := by decide +kernel
theorem d_Nu_less_43 : decode prog_8_method_10_code 43 = .ok (.getfield 13, 3) := by decide +kernel
theorem d_Nu_less_46 : decode prog_8_method_10_code 46 = .ok (.aload_n 2, 1) := by decide +kernel
theorem d_Nu_less_47 : decode prog_8_method_10_code 47 = .ok (.getfield 13, 3) := by decide +kernel
theorem d_Nu_less_50 : decode prog_8_method_10_code 50 = .ok (.if_icmp .le 10, 3) := by decide +kernel
theorem d_Nu_less_53 : decode prog_8_method_10_code 53 = .ok (.aload_n 1, 1) := by decide +kernel
theorem d_Nu_less_54 : decode prog_8_method_10_code 54 = .ok (.getfield 13, 3) := by decide +kernel
theorem d_Nu_less_57 : decode prog_8_method_10_code 57 = .ok (.goto 7, 3) := by decide +kernel
theorem d_Nu_less_60 : decode prog_8_method_10_code 60 = .ok (.aload_n 2, 1) := by decide +kernel
theorem d_Nu_less_61 : decode prog_8_method_10_code 61 = .ok (.getfield 13, 3) := by decide +kernel
theorem d_Nu_less_64 : decode prog_8_method_10_code 64 = .ok (.istore 4, 2) := by decide +kernel
theorem d_Nu_less_66 : decode prog_8_method_10_code 66 = .ok (.iconst 0, 1) := by decide +kernel
theorem d_Nu_less_67 : decode prog_8_method_10_code 67 = .ok (.istore 5, 2) := by decide +kernel
theorem d_Nu_less_69 : decode prog_8_method_10_code 69 = .ok (.iconst 0, 1) := by decide +kernel
theorem d_Nu_less_70 : decode prog_8_method_10_code 70 = .ok (.istore 6, 2) := by decide +kernel
theorem d_Nu_less_72 : decode prog_8_method_10_code 72 = .ok (.iload 6, 2) := by decide +kernel
theorem d_Nu_less_74 : decode prog_8_method_10_code 74 = .ok (.iload 4, 2) := by decide +kernel
theorem d_Nu_less_76 : decode prog_8_method_10_code 76 = .ok (.if_icmp .ge 74, 3) := by decide +kernel
theorem d_Nu_less_79 : decode prog_8_method_10_code 79 = .ok (.iload 5, 2) := by decide +kernel
theorem d_Nu_less_81 : decode prog_8_method_10_code 81 = .ok (.iload 6, 2) := by decide +kernel
theorem d_Nu_less_83 : decode prog_8_method_10_code 83 = .ok (.aload_n 1, 1) := by decide +kernel
theorem d_Nu_less_84 : decode prog_8_method_10_code 84 = .ok (.getfield 13, 3) := by decide +kernel
theorem d_Nu_less_87 : decode prog_8_method_10_code 87 = .ok (.if_icmp .ge 13, 3) := by decide +kernel
theorem d_Nu_less_90 : decode prog_8_method_10_code 90 = .ok (.aload_n 1, 1) := by decide +kernel
theorem d_Nu_less_91 : decode prog_8_method_10_code 91 = .ok (.getfield 7, 3) := by decide +kernel
theorem d_Nu_less_94 : decode prog_8_method_10_code 94 = .ok (.iload 6, 2) := by decide +kernel
theorem d_Nu_less_96 : decode prog_8_method_10_code 96 = .ok (.iaload, 1) := by decide +kernel
theorem d_Nu_less_97 : decode prog_8_method_10_code 97 = .ok (.goto 4, 3) := by decide +kernel
theorem d_Nu_less_100 : decode prog_8_method_10_code 100 = .ok (.iconst 0, 1) := by decide +kernel
theorem d_Nu_less_101 : decode prog_8_method_10_code 101 = .ok (.iload 6, 2) := by decide +kernel
theorem d_Nu_less_103 : decode prog_8_method_10_code 103 = .ok (.aload_n 2, 1) := by decide +kernel
theorem d_Nu_less_104 : decode prog_8_method_10_code 104 = .ok (.getfield 13, 3) := by decide +kernel
theorem d_Nu_less_107 : decode prog_8_method_10_code 107 = .ok (.if_icmp .ge 13, 3) := by decide +kernel
theorem d_Nu_less_110 : decode prog_8_method_10_code 110 = .ok (.aload_n 2, 1) := by decide +kernel
theorem d_Nu_less_111 : decode prog_8_method_10_code 111 = .ok (.getfield 7, 3) := by decide +kernel
theorem d_Nu_less_114 : decode prog_8_method_10_code 114 = .ok (.iload 6, 2) := by decide +kernel
theorem d_Nu_less_116 : decode prog_8_method_10_code 116 = .ok (.iaload, 1) := by decide +kernel
theorem d_Nu_less_117 : decode prog_8_method_10_code 117 = .ok (.goto 4, 3) := by decide +kernel
theorem d_Nu_less_120 : decode prog_8_method_10_code 120 = .ok (.iconst 0, 1) := by decide +kernel
theorem d_Nu_less_121 : decode prog_8_method_10_code 121 = .ok (.iadd, 1) := by decide +kernel
theorem d_Nu_less_122 : decode prog_8_method_10_code 122 = .ok (.iadd, 1) := by decide +kernel
theorem d_Nu_less_123 : decode prog_8_method_10_code 123 = .ok (.istore 5, 2) := by decide +kernel
theorem d_Nu_less_125 : decode prog_8_method_10_code 125 = .ok (.aload_n 0, 1) := by decide +kernel
theorem d_Nu_less_126 : decode prog_8_method_10_code 126 = .ok (.getfield 7, 3) := by decide +kernel
theorem d_Nu_less_129 : decode prog_8_method_10_code 129 = .ok (.iload 6, 2) := by decide +kernel
theorem d_Nu_less_131 : decode prog_8_method_10_code 131 = .ok (.iload 5, 2) := by decide +kernel
theorem d_Nu_less_133 : decode prog_8_method_10_code 133 = .ok (.ldc 26, 2) := by decide +kernel
theorem d_Nu_less_135 : decode prog_8_method_10_code 135 = .ok (.irem, 1) := by decide +kernel
theorem d_Nu_less_136 : decode prog_8_method_10_code 136 = .ok (.iastore, 1) := by decide +kernel
theorem d_Nu_less_137 : decode prog_8_method_10_code 137 = .ok (.iload 5, 2) := by decide +kernel
theorem d_Nu_less_139 : decode prog_8_method_10_code 139 = .ok (.ldc 26, 2) := by decide +kernel
theorem d_Nu_less_141 : decode prog_8_method_10_code 141 = .ok (.idiv, 1) := by decide +kernel
theorem d_Nu_less_142 : decode prog_8_method_10_code 142 = .ok (.istore 5, 2) := by decide +kernel
theorem d_Nu_less_144 : decode prog_8_method_10_code 144 = .ok (.iinc 6 1, 3) := by decide +kernel
theorem d_Nu_less_147 : decode prog_8_method_10_code 147 = .ok (.goto (-75), 3) := by decide +kernel
theorem d_Nu_less_150 : decode prog_8_method_10_code 150 = .ok (.aload_n 0, 1) := by decide +kernel
theorem d_Nu_less_151 : decode prog_8_method_10_code 151 = .ok (.getfield 7, 3) := by decide +kernel
theorem d_Nu_less_154 : decode prog_8_method_10_code 154 = .ok (.iload 4, 2) := by decide +kernel
theorem d_Nu_less_156 : decode prog_8_method_10_code 156 = .ok (.iload 5, 2) := by decide +kernel
theorem d_Nu_less_158 : decode prog_8_method_10_code 158 = .ok (.iastore, 1) := by decide +kernel
theorem d_Nu_less_159 : decode prog_8_method_10_code 159 = .ok (.aload_n 0, 1) := by decide +kernel
theorem d_Nu_less_160 : decode prog_8_method_10_code 160 = .ok (.iload 4, 2) := by decide +kernel
theorem d_Nu_less_162 : decode prog_8_method_10_code 162 = .ok (.iconst 1, 1) := by decide +kernel
theorem d_Nu_less_163 : decode prog_8_method_10_code 163 = .ok (.iadd, 1) := by decide +kernel
theorem d_Nu_less_164 : decode prog_8_method_10_code 164 = .ok (.putfield 13, 3) := by decide +kernel
theorem d_Nu_less_167 : decode prog_8_method_10_code 167 = .ok (.aload_n 0, 1) := by decide +kernel
theorem d_Nu_less_168 : decode prog_8_method_10_code 168 = .ok (.aload_n 1, 1) := by decide +kernel
theorem d_Nu_less_169 : decode prog_8_method_10_code 169 = .ok (.getfield 13, 3) := by decide +kernel
theorem d_Nu_less_172 : decode prog_8_method_10_code 172 = .ok (.ifCond .ne 7, 3) := by decide +kernel
theorem d_Nu_less_175 : decode prog_8_method_10_code 175 = .ok (.iload_n 3, 1) := by decide +kernel
theorem d_Nu_less_176 : decode prog_8_method_10_code 176 = .ok (.goto 7, 3) := by decide +kernel
theorem d_Nu_less_179 : decode prog_8_method_10_code 179 = .ok (.aload_n 1, 1) := by decide +kernel
theorem d_Nu_less_180 : decode prog_8_method_10_code 180 = .ok (.getfield 17, 3) := by decide +kernel
theorem d_Nu_less_183 : decode prog_8_method_10_code 183 = .ok (.putfield 17, 3) := by decide +kernel
theorem d_Nu_less_186 : decode prog_8_method_10_code 186 = .ok (.aload_n 0, 1) := by decide +kernel
theorem d_Nu_less_187 : decode prog_8_method_10_code 187 = .ok (.invokevirtual 27, 3) := by decide +kernel
theorem d_Nu_less_190 : decode prog_8_method_10_code 190 = .ok (.return_, 1) := by decide +kernel
theorem d_Nu_less_191 : decode prog_8_method_10_code 191 = .ok (.aload_n 1, 1) := by decide +kernel
theorem d_Nu_less_192 : decode prog_8_method_10_code 192 = .ok (.aload_n 2, 1) := by decide +kernel
theorem d_Nu_less_193 : decode prog_8_method_10_code 193 = .ok (.invokevirtual 30, 3) := by decide +kernel
theorem d_Nu_less_196 : decode prog_8_method_10_code 196 = .ok (.ifCond .lt 7, 3) := by decide +kernel
theorem d_Nu_less_199 : decode prog_8_method_10_code 199 = .ok (.iconst 1, 1) := by decide +kernel
theorem d_Nu_less_200 : decode prog_8_method_10_code 200 = .ok (.goto 4, 3) := by decide +kernel
theorem d_Nu_less_203 : decode prog_8_method_10_code 203 = .ok (.iconst 0, 1) := by decide +kernel
theorem d_Nu_less_204 : decode prog_8_method_10_code 204 = .ok (.istore 4, 2) := by decide +kernel
theorem d_Nu_less_206 : decode prog_8_method_10_code 206 = .ok (.iload 4, 2) := by decide +kernel
theorem d_Nu_less_208 : decode prog_8_method_10_code 208 = .ok (.ifCond .eq 7, 3) := by decide +kernel
theorem d_Nu_less_211 : decode prog_8_method_10_code 211 = .ok (.aload_n 1, 1) := by decide +kernel
theorem d_Nu_less_212 : decode prog_8_method_10_code 212 = .ok (.goto 4, 3) := by decide +kernel
theorem d_Nu_less_215 : decode prog_8_method_10_code 215 = .ok (.aload_n 2, 1) := by decide +kernel
theorem d_Nu_less_216 : decode prog_8_method_10_code 216 = .ok (.astore 5, 2) := by decide +kernel
theorem d_Nu_less_218 : decode prog_8_method_10_code 218 = .ok (.iload 4, 2) := by decide +kernel
theorem d_Nu_less_220 : decode prog_8_method_10_code 220 = .ok (.ifCond .eq 7, 3) := by decide +kernel
theorem d_Nu_less_223 : decode prog_8_method_10_code 223 = .ok (.aload_n 2, 1) := by decide +kernel
theorem d_Nu_less_224 : decode prog_8_method_10_code 224 = .ok (.goto 4, 3) := by decide +kernel
theorem d_Nu_less_227 : decode prog_8_method_10_code 227 = .ok (.aload_n 1, 1) := by decide +kernel
theorem d_Nu_less_228 : decode prog_8_method_10_code 228 = .ok (.astore 6, 2) := by decide +kernel
theorem d_Nu_less_230 : decode prog_8_method_10_code 230 = .ok (.iconst 0, 1) := by decide +kernel
theorem d_Nu_less_231 : decode prog_8_method_10_code 231 = .ok (.istore 7, 2) := by decide +kernel
theorem d_Nu_less_233 : decode prog_8_method_10_code 233 = .ok (.iconst 0, 1) := by decide +kernel
theorem d_Nu_less_234 : decode prog_8_method_10_code 234 = .ok (.istore 8, 2) := by decide +kernel
theorem d_Nu_less_236 : decode prog_8_method_10_code 236 = .ok (.iload 8, 2) := by decide +kernel
theorem d_Nu_less_238 : decode prog_8_method_10_code 238 = .ok (.aload 5, 2) := by decide +kernel
theorem d_Nu_less_240 : decode prog_8_method_10_code 240 = .ok (.getfield 13, 3) := by decide +kernel
theorem d_Nu_less_243 : decode prog_8_method_10_code 243 = .ok (.if_icmp .ge 72, 3) := by decide +kernel
theorem d_Nu_less_246 : decode prog_8_method_10_code 246 = .ok (.aload 5, 2) := by decide +kernel
theorem d_Nu_less_248 : decode prog_8_method_10_code 248 = .ok (.getfield 7, 3) := by decide +kernel
theorem d_Nu_less_251 : decode prog_8_method_10_code 251 = .ok (.iload 8, 2) := by decide +kernel
theorem d_Nu_less_253 : decode prog_8_method_10_code 253 = .ok (.iaload, 1) := by decide +kernel
theorem d_Nu_less_254 : decode prog_8_method_10_code 254 = .ok (.iload 8, 2) := by decide +kernel
theorem d_Nu_less_256 : decode prog_8_method_10_code 256 = .ok (.aload 6, 2) := by decide +kernel
theorem d_Nu_less_258 : decode prog_8_method_10_code 258 = .ok (.getfield 13, 3) := by decide +kernel
theorem d_Nu_less_261 : decode prog_8_method_10_code 261 = .ok (.if_icmp .ge 14, 3) := by decide +kernel
theorem d_Nu_less_264 : decode prog_8_method_10_code 264 = .ok (.aload 6, 2) := by decide +kernel
theorem d_Nu_less_266 : decode prog_8_method_10_code 266 = .ok (.getfield 7, 3) := by decide +kernel
theorem d_Nu_less_269 : decode prog_8_method_10_code 269 = .ok (.iload 8, 2) := by decide +kernel
theorem d_Nu_less_271 : decode prog_8_method_10_code 271 = .ok (.iaload, 1) := by decide +kernel
theorem d_Nu_less_272 : decode prog_8_method_10_code 272 = .ok (.goto 4, 3) := by decide +kernel
theorem d_Nu_less_275 : decode prog_8_method_10_code 275 = .ok (.iconst 0, 1) := by decide +kernel
theorem d_Nu_less_276 : decode prog_8_method_10_code 276 = .ok (.isub, 1) := by decide +kernel
theorem d_Nu_less_277 : decode prog_8_method_10_code 277 = .ok (.iload 7, 2) := by decide +kernel
theorem d_Nu_less_279 : decode prog_8_method_10_code 279 = .ok (.isub, 1) := by decide +kernel
theorem d_Nu_less_280 : decode prog_8_method_10_code 280 = .ok (.istore 9, 2) := by decide +kernel
theorem d_Nu_less_282 : decode prog_8_method_10_code 282 = .ok (.iload 9, 2) := by decide +kernel
theorem d_Nu_less_284 : decode prog_8_method_10_code 284 = .ok (.ifCond .ge 7, 3) := by decide +kernel
theorem d_Nu_less_287 : decode prog_8_method_10_code 287 = .ok (.iconst 1, 1) := by decide +kernel
theorem d_Nu_less_288 : decode prog_8_method_10_code 288 = .ok (.goto 4, 3) := by decide +kernel
theorem d_Nu_less_291 : decode prog_8_method_10_code 291 = .ok (.iconst 0, 1) := by decide +kernel
theorem d_Nu_less_292 : decode prog_8_method_10_code 292 = .ok (.istore 7, 2) := by decide +kernel
theorem d_Nu_less_294 : decode prog_8_method_10_code 294 = .ok (.aload_n 0, 1) := by decide +kernel
theorem d_Nu_less_295 : decode prog_8_method_10_code 295 = .ok (.getfield 7, 3) := by decide +kernel
theorem d_Nu_less_298 : decode prog_8_method_10_code 298 = .ok (.iload 8, 2) := by decide +kernel
theorem d_Nu_less_300 : decode prog_8_method_10_code 300 = .ok (.iload 9, 2) := by decide +kernel
theorem d_Nu_less_302 : decode prog_8_method_10_code 302 = .ok (.ldc 26, 2) := by decide +kernel
theorem d_Nu_less_304 : decode prog_8_method_10_code 304 = .ok (.iload 7, 2) := by decide +kernel
theorem d_Nu_less_306 : decode prog_8_method_10_code 306 = .ok (.imul, 1) := by decide +kernel
theorem d_Nu_less_307 : decode prog_8_method_10_code 307 = .ok (.iadd, 1) := by decide +kernel
theorem d_Nu_less_308 : decode prog_8_method_10_code 308 = .ok (.iastore, 1) := by decide +kernel
theorem d_Nu_less_309 : decode prog_8_method_10_code 309 = .ok (.iinc 8 1, 3) := by decide +kernel
theorem d_Nu_less_312 : decode prog_8_method_10_code 312 = .ok (.goto (-76), 3) := by decide +kernel
theorem d_Nu_less_315 : decode prog_8_method_10_code 315 = .ok (.aload_n 0, 1) := by decide +kernel
theorem d_Nu_less_316 : decode prog_8_method_10_code 316 = .ok (.aload 5, 2) := by decide +kernel
theorem d_Nu_less_318 : decode prog_8_method_10_code 318 = .ok (.getfield 13, 3) := by decide +kernel
theorem d_Nu_less_321 : decode prog_8_method_10_code 321 = .ok (.putfield 13, 3) := by decide +kernel
theorem d_Nu_less_324 : decode prog_8_method_10_code 324 = .ok (.aload_n 0, 1) := by decide +kernel
theorem d_Nu_less_325 : decode prog_8_method_10_code 325 = .ok (.iload 4, 2) := by decide +kernel
theorem d_Nu_less_327 : decode prog_8_method_10_code 327 = .ok (.ifCond .eq 10, 3) := by decide +kernel
theorem d_Nu_less_330 : decode prog_8_method_10_code 330 = .ok (.aload_n 1, 1) := by decide +kernel
theorem d_Nu_less_331 : decode prog_8_method_10_code 331 = .ok (.getfield 17, 3) := by decide +kernel
theorem d_Nu_less_334 : decode prog_8_method_10_code 334 = .ok (.goto 4, 3) := by decide +kernel
theorem d_Nu_less_337 : decode prog_8_method_10_code 337 = .ok (.iload_n 3, 1) := by decide +kernel
theorem d_Nu_less_338 : decode prog_8_method_10_code 338 = .ok (.putfield 17, 3) := by decide +kernel
theorem d_Nu_less_341 : decode prog_8_method_10_code 341 = .ok (.aload_n 0, 1) := by decide +kernel
theorem d_Nu_less_342 : decode prog_8_method_10_code 342 = .ok (.invokevirtual 27, 3) := by decide +kernel
theorem d_Nu_less_345 : decode prog_8_method_10_code 345 = .ok (.return_, 1) := by decide +kernel
def f_N_lessA (x_d_n : Nat) (x_d : Nat → Int32) (a_n : Int32) (a_minus : Int32) (a_d_n : Nat) (a_d : Nat → Int32) (b_n : Int32) (b_minus : Int32) (b_d_n : Nat) (b_d : Nat → Int32) : Option (Int32 × Int32 × (Nat → Int32)) :=
  ck_jn (fun (s0_1 : Int32) => ck_jn (fun (_ : Unit) => ck_jn (fun (s0_2 : Int32) => ck_jn (fun (v5_3 : Int32) (w_4 : Nat → Int32) => ck_in s0_2 x_d_n <| ck_jn (fun (s0_6 : Int32) => ck_z s0_6 <| ck_b2 (f_N_trim (s0_2 + 1) s0_6 x_d_n (upd w_4 s0_2.toNatClampNeg v5_3)) <| fun u_8 u_9 => some (u_8, u_9, (upd w_4 s0_2.toNatClampNeg v5_3))) <| fun k_183 => ck_if (a_n = 0) (k_183 s0_1) (k_183 a_minus)) <| fun k_150 => lo3 (fun k_72 (v6_12 : Int32) (v5_13 : Int32) (w_14 : Nat → Int32) => ck_if (s0_2 ≤ v6_12) (k_150 v5_13 w_14) (ck_jn (fun (s0_16 : Int32) => ck_jn (fun (s0_17 : Int32) => ck_nm (v5_13 + (s0_16 + s0_17)) <| fun x_18 => ck_in v6_12 x_d_n <| ck_nm (x_18 / 65536) <| fun x_20 => ck_nm (v6_12 + 1) <| fun x_21 => k_72 x_21 x_20 (upd w_14 v6_12.toNatClampNeg (x_18 - x_18 / 65536 * 65536))) <| fun k_121 => ck_if (b_n ≤ v6_12) (k_121 0) (ck_in v6_12 b_d_n <| k_121 (b_d v6_12.toNatClampNeg))) <| fun k_101 => ck_if (a_n ≤ v6_12) (k_101 0) (ck_in v6_12 a_d_n <| k_101 (a_d v6_12.toNatClampNeg)))) ck_F 0 0 x_d) <| fun k_64 => ck_if (a_n ≤ b_n) (k_64 b_n) (k_64 a_n)) <| fun k_42 => ck_if (a_n = 0) (k_42 ()) (ck_if (b_n = 0) (k_42 ()) (ck_if (a_minus = s0_1) (k_42 ()) (none)))) <| fun k_19 => ck_jn (fun (_ : Unit) => k_19 0) <| fun k_18 => ck_if (b_n ≤ 0) (k_18 ()) (ck_if (b_minus = 0) (k_19 1) (k_18 ()))
set_option maxHeartbeats 4000000 in
set_option maxRecDepth 100000 in
theorem c_N_lessA (l : Launch) (dC : Nat → ClassId) (dI : Nat → Nat → Nat) (cI cJ cB cZ cT cN : ClassId) (sz : Nat) (h_x : Nat) (h_a : Nat) (h_b : Nat) (h_x_d : Nat) (h_a_d : Nat) (h_b_d : Nat) (x_n : Int32) (x_minus : Int32) (x_d_n : Nat) (x_d : Nat → Int32) (a_n : Int32) (a_minus : Int32) (a_d_n : Nat) (a_d : Nat → Int32) (b_n : Int32) (b_minus : Int32) (b_d_n : Nat) (b_d : Nat → Int32) (r : Int32 × Int32 × (Nat → Int32)) (h : f_N_lessA x_d_n x_d a_n a_minus a_d_n a_d b_n b_minus b_d_n b_d = some r) : Met l y_Nu_less w_Nu_less ({ frames := 1, cells := 0, slots := 0, locals := 22 } : Room) (va_Pc [.ref h_x, .ref h_a, .ref h_b] (fun U => U.heap.size = sz ∧ va_P (dC, dI) cl_all [(h_x, .inr (5, [.ref h_x_d, .int x_n, .int x_minus])), (h_x_d, .inl (cI, x_d_n, .inl x_d)), (h_a, .inr (5, [.ref h_a_d, .int a_n, .int a_minus])), (h_a_d, .inl (cI, a_d_n, .inl a_d)), (h_b, .inr (5, [.ref h_b_d, .int b_n, .int b_minus])), (h_b_d, .inl (cI, b_d_n, .inl b_d))] U.heap ∧ va_K (dC, dI) cl_all [(cI, .int), (cJ, .long), (cB, .byte), (cZ, .boolean), (cT, .object "BasisWalk$Table"), (cN, .object "BasisWalkModel$Num")] U ∧ NW U ∧ va_D (fun _ => True) [(h_x, .inr (5, [.ref h_x_d, .int x_n, .int x_minus])), (h_x_d, .inl (cI, x_d_n, .inl x_d)), (h_a, .inr (5, [.ref h_a_d, .int a_n, .int a_minus])), (h_a_d, .inl (cI, a_d_n, .inl a_d)), (h_b, .inr (5, [.ref h_b_d, .int b_n, .int b_minus])), (h_b_d, .inl (cI, b_d_n, .inl b_d))])) (va_Qv (fun u : Int32 × Int32 × (Nat → Int32) => u = r) (fun (u : Int32 × Int32 × (Nat → Int32)) (t : State) => va_P (dC, dI) cl_all [(h_x, .inr (5, [.ref h_x_d, .int u.1, .int u.2.1])), (h_x_d, .inl (cI, x_d_n, .inl u.2.2)), (h_a, .inr (5, [.ref h_a_d, .int a_n, .int a_minus])), (h_a_d, .inl (cI, a_d_n, .inl a_d)), (h_b, .inr (5, [.ref h_b_d, .int b_n, .int b_minus])), (h_b_d, .inl (cI, b_d_n, .inl b_d))] t.heap ∧ va_K (dC, dI) cl_all [(cI, .int), (cJ, .long), (cB, .byte), (cZ, .boolean), (cT, .object "BasisWalk$Table"), (cN, .object "BasisWalkModel$Num")] t ∧ va_D (va_A [(h_x, .inr (5, [.ref h_x_d, .int x_n, .int x_minus])), (h_x_d, .inl (cI, x_d_n, .inl x_d)), (h_a, .inr (5, [.ref h_a_d, .int a_n, .int a_minus])), (h_a_d, .inl (cI, a_d_n, .inl a_d)), (h_b, .inr (5, [.ref h_b_d, .int b_n, .int b_minus])), (h_b_d, .inl (cI, b_d_n, .inl b_d))] sz) [(h_x, .inr (5, [.ref h_x_d, .int u.1, .int u.2.1])), (h_x_d, .inl (cI, x_d_n, .inl u.2.2)), (h_a, .inr (5, [.ref h_a_d, .int a_n, .int a_minus])), (h_a_d, .inl (cI, a_d_n, .inl a_d)), (h_b, .inr (5, [.ref h_b_d, .int b_n, .int b_minus])), (h_b_d, .inl (cI, b_d_n, .inl b_d))]) (va_A [(h_x, .inr (5, [.ref h_x_d, .int x_n, .int x_minus])), (h_x_d, .inl (cI, x_d_n, .inl x_d)), (h_a, .inr (5, [.ref h_a_d, .int a_n, .int a_minus])), (h_a_d, .inl (cI, a_d_n, .inl a_d)), (h_b, .inr (5, [.ref h_b_d, .int b_n, .int b_minus])), (h_b_d, .inl (cI, b_d_n, .inl b_d))] sz)) 0 0 (va_A [(h_x, .inr (5, [.ref h_x_d, .int x_n, .int x_minus])), (h_x_d, .inl (cI, x_d_n, .inl x_d)), (h_a, .inr (5, [.ref h_a_d, .int a_n, .int a_minus])), (h_a_d, .inl (cI, a_d_n, .inl a_d)), (h_b, .inr (5, [.ref h_b_d, .int b_n, .int b_minus])), (h_b_d, .inl (cI, b_d_n, .inl b_d))] sz) := by
  refine Met.ofW (cc := prog_8_method_10_code) (maxL := 10) (ret := (Option.none : Option Jvm.ClassFile.FieldType)) (by decide) rfl ?_
  intro p e s m args below meth c s₁ B hml hv
  obtain ⟨hAR, hsz, hP, hK, hN, hD0⟩ := hv
  have hx := B.exec
  have hb := B.bytes
  have hr := B.returns
  have hts := atoms_spec (ws := w_Nu_less) B.pre
  have hown : s.vm.findClass "BasisWalkModel$Num" = some m.cls := findClass_of_methodNamed B.named
  have hlocks := B.notSynchronized
  clear B
  subst hsz
  have hD := hD0.self (sz := s.heap.size)
  generalize hAe : va_A [(h_x, .inr (5, [.ref h_x_d, .int x_n, .int x_minus])), (h_x_d, .inl (cI, x_d_n, .inl x_d)), (h_a, .inr (5, [.ref h_a_d, .int a_n, .int a_minus])), (h_a_d, .inl (cI, a_d_n, .inl a_d)), (h_b, .inr (5, [.ref h_b_d, .int b_n, .int b_minus])), (h_b_d, .inl (cI, b_d_n, .inl b_d))] s.heap.size = A at hD ⊢
  have hA : ∀ q : Nat, s.heap.size ≤ q → A q := fun q h => by rw [← hAe]; exact Or.inr h
  clear hAe hD0
  have hS : va_S A s.heap s.heap [] := va_S.rf
  have hl := lv_entry ([.ref h_x, .ref h_a, .ref h_b]) (n := 10) (Nat.le_of_ble_eq_true rfl)
  subst hAR
  rw [lg_entry_eq]
  generalize (lg_sl ([.ref h_x, .ref h_a, .ref h_b]) ++ List.replicate (10 - (lg_sl ([.ref h_x, .ref h_a, .ref h_b])).length) Slot.unset).toArray = ls at hl ⊢
  have hl : lv_has ls 10 [(0, .ref h_x), (1, .ref h_a), (2, .ref h_b)] := hl
  change W p l e ({ frames := 1, cells := 0, slots := 0, locals := 22 } : Room) s m _ below meth c s.heap [] 0 0 _ _
  generalize hARe : ([.ref h_x, .ref h_a, .ref h_b] : List Value).toArray = AR at hts ⊢
  clear hARe
  generalize hQ : MQ below _ AR s 0 0 A = QQ
  have fl0 := hts _ (List.mem_cons_of_mem _ tw_340)
  have iw1 := (fun w hw => List.mem_cons_of_mem _ (in_Nu w hw) : ∀ w ∈ u_ws "BasisWalkModel$Num" T_Nu 3, w ∈ w_Nu_less)
  have fl2 := hts _ (List.mem_cons_of_mem _ tw_338)
  have fl3 := hts _ (List.mem_cons_of_mem _ tw_342)
  have kc4 := hts _ (List.mem_cons_of_mem _ tw_534)
  obtain ⟨H, hHe⟩ : ∃ H : Heap, H = s.heap := ⟨_, rfl⟩
  rw [← hHe] at hP ⊢
  replace hS : va_S A s.heap H [] := by rw [hHe]; exact va_S.rf
  clear hHe
  unfold f_N_lessA at h
  refine lv_aload_n hx hb d_Nu_less_0 rfl (lv_at hl 2 rfl) ?_
  refine va_get (D := (dC, dI)) (ci := 5) (v := .int b_n) (C := "BasisWalkModel$Num") (T := T_Nu) (N := 3) hx hb hts iw1 hown hK hP 4 rfl rfl 1 (by decide) fl0 (fun _ h9 => h9) rfl d_Nu_less_1 ?_
  refine ck_jn_W h (fun k' => ∀ (s0_1 : Int32), k' s0_1 = some r → ∀ (H : Heap) (locs : List Loc), va_P (dC, dI) cl_all [(h_x, .inr (5, [.ref h_x_d, .int x_n, .int x_minus])), (h_x_d, .inl (cI, x_d_n, .inl x_d)), (h_a, .inr (5, [.ref h_a_d, .int a_n, .int a_minus])), (h_a_d, .inl (cI, a_d_n, .inl a_d)), (h_b, .inr (5, [.ref h_b_d, .int b_n, .int b_minus])), (h_b_d, .inl (cI, b_d_n, .inl b_d))] H → va_D A [(h_x, .inr (5, [.ref h_x_d, .int x_n, .int x_minus])), (h_x_d, .inl (cI, x_d_n, .inl x_d)), (h_a, .inr (5, [.ref h_a_d, .int a_n, .int a_minus])), (h_a_d, .inl (cI, a_d_n, .inl a_d)), (h_b, .inr (5, [.ref h_b_d, .int b_n, .int b_minus])), (h_b_d, .inl (cI, b_d_n, .inl b_d))] → va_S A s.heap H locs → ∀ ls : Array Slot, lv_has ls 10 [(0, .ref h_x), (1, .ref h_a), (2, .ref h_b)] → W p l e ({ frames := 1, cells := 0, slots := 0, locals := 22 } : Room) s m AR below meth c H locs 0 0 QQ (F0 m 19 ls [.int s0_1])) ?_ ?_
  · intro s0_1 h H locs hP hD hS ls hl
    refine lv_istore_n (lv' := [(3, .int s0_1), (0, .ref h_x), (1, .ref h_a), (2, .ref h_b)]) hx hb d_Nu_less_19 rfl hl (by decide) rfl (fun ls hl => ?_)
    refine lv_aload_n hx hb d_Nu_less_20 rfl (lv_at hl 2 rfl) ?_
    refine va_get (D := (dC, dI)) (ci := 5) (v := .int a_n) (C := "BasisWalkModel$Num") (T := T_Nu) (N := 3) hx hb hts iw1 hown hK hP 2 rfl rfl 1 (by decide) fl0 (fun _ h9 => h9) rfl d_Nu_less_21 ?_
    refine ck_jn_W h (fun k' => ∀ u : Unit, k' u = some r → ∀ (H : Heap) (locs : List Loc), va_P (dC, dI) cl_all [(h_x, .inr (5, [.ref h_x_d, .int x_n, .int x_minus])), (h_x_d, .inl (cI, x_d_n, .inl x_d)), (h_a, .inr (5, [.ref h_a_d, .int a_n, .int a_minus])), (h_a_d, .inl (cI, a_d_n, .inl a_d)), (h_b, .inr (5, [.ref h_b_d, .int b_n, .int b_minus])), (h_b_d, .inl (cI, b_d_n, .inl b_d))] H → va_D A [(h_x, .inr (5, [.ref h_x_d, .int x_n, .int x_minus])), (h_x_d, .inl (cI, x_d_n, .inl x_d)), (h_a, .inr (5, [.ref h_a_d, .int a_n, .int a_minus])), (h_a_d, .inl (cI, a_d_n, .inl a_d)), (h_b, .inr (5, [.ref h_b_d, .int b_n, .int b_minus])), (h_b_d, .inl (cI, b_d_n, .inl b_d))] → va_S A s.heap H locs → ∀ ls : Array Slot, lv_has ls 10 [(0, .ref h_x), (1, .ref h_a), (2, .ref h_b), (3, .int s0_1)] → W p l e ({ frames := 1, cells := 0, slots := 0, locals := 22 } : Room) s m AR below meth c H locs 0 0 QQ (F0 m 42 ls [])) ?_ ?_
    · intro _ h H locs hP hD hS ls hl
      refine lv_aload_n hx hb d_Nu_less_42 rfl (lv_at hl 1 rfl) ?_
      refine va_get (D := (dC, dI)) (ci := 5) (v := .int a_n) (C := "BasisWalkModel$Num") (T := T_Nu) (N := 3) hx hb hts iw1 hown hK hP 2 rfl rfl 1 (by decide) fl0 (fun _ h9 => h9) rfl d_Nu_less_43 ?_
      refine lv_aload_n hx hb d_Nu_less_46 rfl (lv_at hl 2 rfl) ?_
      refine va_get (D := (dC, dI)) (ci := 5) (v := .int b_n) (C := "BasisWalkModel$Num") (T := T_Nu) (N := 3) hx hb hts iw1 hown hK hP 4 rfl rfl 1 (by decide) fl0 (fun _ h9 => h9) rfl d_Nu_less_47 ?_
      refine ck_jn_W h (fun k' => ∀ (s0_2 : Int32), k' s0_2 = some r → ∀ (H : Heap) (locs : List Loc), va_P (dC, dI) cl_all [(h_x, .inr (5, [.ref h_x_d, .int x_n, .int x_minus])), (h_x_d, .inl (cI, x_d_n, .inl x_d)), (h_a, .inr (5, [.ref h_a_d, .int a_n, .int a_minus])), (h_a_d, .inl (cI, a_d_n, .inl a_d)), (h_b, .inr (5, [.ref h_b_d, .int b_n, .int b_minus])), (h_b_d, .inl (cI, b_d_n, .inl b_d))] H → va_D A [(h_x, .inr (5, [.ref h_x_d, .int x_n, .int x_minus])), (h_x_d, .inl (cI, x_d_n, .inl x_d)), (h_a, .inr (5, [.ref h_a_d, .int a_n, .int a_minus])), (h_a_d, .inl (cI, a_d_n, .inl a_d)), (h_b, .inr (5, [.ref h_b_d, .int b_n, .int b_minus])), (h_b_d, .inl (cI, b_d_n, .inl b_d))] → va_S A s.heap H locs → ∀ ls : Array Slot, lv_has ls 10 [(0, .ref h_x), (1, .ref h_a), (2, .ref h_b), (3, .int s0_1)] → W p l e ({ frames := 1, cells := 0, slots := 0, locals := 22 } : Room) s m AR below meth c H locs 0 0 QQ (F0 m 64 ls [.int s0_2])) ?_ ?_
      · intro s0_2 h H locs hP hD hS ls hl
        refine lv_istore (lv' := [(4, .int s0_2), (0, .ref h_x), (1, .ref h_a), (2, .ref h_b), (3, .int s0_1)]) hx hb d_Nu_less_64 hl (by decide) rfl (fun ls hl => ?_)
        refine lv_iconst (v := 0) hx hb d_Nu_less_66 (by decide) ?_
        refine lv_istore (lv' := [(5, .int 0), (4, .int s0_2), (0, .ref h_x), (1, .ref h_a), (2, .ref h_b), (3, .int s0_1)]) hx hb d_Nu_less_67 hl (by decide) rfl (fun ls hl => ?_)
        refine lv_iconst (v := 0) hx hb d_Nu_less_69 (by decide) ?_
        refine lv_istore (lv' := [(6, .int 0), (5, .int 0), (4, .int s0_2), (0, .ref h_x), (1, .ref h_a), (2, .ref h_b), (3, .int s0_1)]) hx hb d_Nu_less_70 hl (by decide) rfl (fun ls hl => ?_)
        refine ck_jn_W h (fun k' => ∀ (v5_3 : Int32) (w_4 : Nat → Int32), k' v5_3 w_4 = some r → ∀ (H : Heap) (locs : List Loc), va_P (dC, dI) cl_all [(h_x, .inr (5, [.ref h_x_d, .int x_n, .int x_minus])), (h_x_d, .inl (cI, x_d_n, .inl w_4)), (h_a, .inr (5, [.ref h_a_d, .int a_n, .int a_minus])), (h_a_d, .inl (cI, a_d_n, .inl a_d)), (h_b, .inr (5, [.ref h_b_d, .int b_n, .int b_minus])), (h_b_d, .inl (cI, b_d_n, .inl b_d))] H → va_D A [(h_x, .inr (5, [.ref h_x_d, .int x_n, .int x_minus])), (h_x_d, .inl (cI, x_d_n, .inl w_4)), (h_a, .inr (5, [.ref h_a_d, .int a_n, .int a_minus])), (h_a_d, .inl (cI, a_d_n, .inl a_d)), (h_b, .inr (5, [.ref h_b_d, .int b_n, .int b_minus])), (h_b_d, .inl (cI, b_d_n, .inl b_d))] → va_S A s.heap H locs → ∀ ls : Array Slot, lv_has ls 10 [(0, .ref h_x), (1, .ref h_a), (3, .int s0_1), (4, .int s0_2), (5, .int v5_3)] → W p l e ({ frames := 1, cells := 0, slots := 0, locals := 22 } : Room) s m AR below meth c H locs 0 0 QQ (F0 m 150 ls [])) ?_ ?_
        · intro v5_3 w_4 h H locs hP hD hS ls hl
          refine lv_aload_n hx hb d_Nu_less_150 rfl (lv_at hl 0 rfl) ?_
          refine va_get (D := (dC, dI)) (ci := 5) (v := .ref h_x_d) (C := "BasisWalkModel$Num") (T := T_Nu) (N := 3) hx hb hts iw1 hown hK hP 0 rfl rfl 0 (by decide) fl2 (fun _ h9 => h9) rfl d_Nu_less_151 ?_
          refine lv_iload hx hb d_Nu_less_154 (lv_at hl 3 rfl) ?_
          refine lv_iload hx hb d_Nu_less_156 (lv_at hl 4 rfl) ?_
          obtain ⟨g_5, h⟩ := ck_in_s h
          refine va_iast hx hb hK hP hD hS 1 0 rfl rfl g_5 d_Nu_less_158 (fun H locs hP hD hS => ?_)
          have hP : va_P (dC, dI) cl_all [(h_x, .inr (5, [.ref h_x_d, .int x_n, .int x_minus])), (h_x_d, .inl (cI, x_d_n, .inl (upd w_4 s0_2.toNatClampNeg v5_3))), (h_a, .inr (5, [.ref h_a_d, .int a_n, .int a_minus])), (h_a_d, .inl (cI, a_d_n, .inl a_d)), (h_b, .inr (5, [.ref h_b_d, .int b_n, .int b_minus])), (h_b_d, .inl (cI, b_d_n, .inl b_d))] H := hP
          have hD : va_D A [(h_x, .inr (5, [.ref h_x_d, .int x_n, .int x_minus])), (h_x_d, .inl (cI, x_d_n, .inl (upd w_4 s0_2.toNatClampNeg v5_3))), (h_a, .inr (5, [.ref h_a_d, .int a_n, .int a_minus])), (h_a_d, .inl (cI, a_d_n, .inl a_d)), (h_b, .inr (5, [.ref h_b_d, .int b_n, .int b_minus])), (h_b_d, .inl (cI, b_d_n, .inl b_d))] := hD
          refine lv_aload_n hx hb d_Nu_less_159 rfl (lv_at hl 0 rfl) ?_
          refine lv_iload hx hb d_Nu_less_160 (lv_at hl 3 rfl) ?_
          refine lv_iconst (v := 1) hx hb d_Nu_less_162 (by decide) ?_
          refine lv_iadd hx hb d_Nu_less_163 ?_
          refine va_put (D := (dC, dI)) (ci := 5) (v := .int (s0_2 + 1)) (ty := .int) (C := "BasisWalkModel$Num") (T := T_Nu) (N := 3) hx hb hts iw1 ty_Nu tyok_Nu nm_Nu hown hK hP hD hS 0 rfl rfl 1 (by decide) fl0 (fun _ h9 => h9) rfl (by decide +kernel) rfl rfl (Nat.le_of_ble_eq_true rfl) d_Nu_less_164 (fun H locs hP hD hS => ?_)
          have hP : va_P (dC, dI) cl_all [(h_x, .inr (5, [.ref h_x_d, .int (s0_2 + 1), .int x_minus])), (h_x_d, .inl (cI, x_d_n, .inl (upd w_4 s0_2.toNatClampNeg v5_3))), (h_a, .inr (5, [.ref h_a_d, .int a_n, .int a_minus])), (h_a_d, .inl (cI, a_d_n, .inl a_d)), (h_b, .inr (5, [.ref h_b_d, .int b_n, .int b_minus])), (h_b_d, .inl (cI, b_d_n, .inl b_d))] H := hP
          have hD : va_D A [(h_x, .inr (5, [.ref h_x_d, .int (s0_2 + 1), .int x_minus])), (h_x_d, .inl (cI, x_d_n, .inl (upd w_4 s0_2.toNatClampNeg v5_3))), (h_a, .inr (5, [.ref h_a_d, .int a_n, .int a_minus])), (h_a_d, .inl (cI, a_d_n, .inl a_d)), (h_b, .inr (5, [.ref h_b_d, .int b_n, .int b_minus])), (h_b_d, .inl (cI, b_d_n, .inl b_d))] := hD
          refine lv_aload_n hx hb d_Nu_less_167 rfl (lv_at hl 0 rfl) ?_
          refine lv_aload_n hx hb d_Nu_less_168 rfl (lv_at hl 1 rfl) ?_
          refine va_get (D := (dC, dI)) (ci := 5) (v := .int a_n) (C := "BasisWalkModel$Num") (T := T_Nu) (N := 3) hx hb hts iw1 hown hK hP 2 rfl rfl 1 (by decide) fl0 (fun _ h9 => h9) rfl d_Nu_less_169 ?_
          refine ck_jn_W h (fun k' => ∀ (s0_6 : Int32), k' s0_6 = some r → ∀ (H : Heap) (locs : List Loc), va_P (dC, dI) cl_all [(h_x, .inr (5, [.ref h_x_d, .int (s0_2 + 1), .int x_minus])), (h_x_d, .inl (cI, x_d_n, .inl (upd w_4 s0_2.toNatClampNeg v5_3))), (h_a, .inr (5, [.ref h_a_d, .int a_n, .int a_minus])), (h_a_d, .inl (cI, a_d_n, .inl a_d)), (h_b, .inr (5, [.ref h_b_d, .int b_n, .int b_minus])), (h_b_d, .inl (cI, b_d_n, .inl b_d))] H → va_D A [(h_x, .inr (5, [.ref h_x_d, .int (s0_2 + 1), .int x_minus])), (h_x_d, .inl (cI, x_d_n, .inl (upd w_4 s0_2.toNatClampNeg v5_3))), (h_a, .inr (5, [.ref h_a_d, .int a_n, .int a_minus])), (h_a_d, .inl (cI, a_d_n, .inl a_d)), (h_b, .inr (5, [.ref h_b_d, .int b_n, .int b_minus])), (h_b_d, .inl (cI, b_d_n, .inl b_d))] → va_S A s.heap H locs → ∀ ls : Array Slot, lv_has ls 10 [(0, .ref h_x)] → W p l e ({ frames := 1, cells := 0, slots := 0, locals := 22 } : Room) s m AR below meth c H locs 0 0 QQ (F0 m 183 ls [.int s0_6, .ref h_x])) ?_ ?_
          · intro s0_6 h H locs hP hD hS ls hl
            obtain ⟨g_7, h⟩ := ck_z_s h
            refine va_put (D := (dC, dI)) (ci := 5) (v := .int s0_6) (ty := .boolean) (C := "BasisWalkModel$Num") (T := T_Nu) (N := 3) hx hb hts iw1 ty_Nu tyok_Nu nm_Nu hown hK hP hD hS 0 rfl rfl 2 (by decide) fl3 (fun _ h9 => h9) rfl (by decide +kernel) g_7.1 g_7.2 (Nat.le_of_ble_eq_true rfl) d_Nu_less_183 (fun H locs hP hD hS => ?_)
            have hP : va_P (dC, dI) cl_all [(h_x, .inr (5, [.ref h_x_d, .int (s0_2 + 1), .int s0_6])), (h_x_d, .inl (cI, x_d_n, .inl (upd w_4 s0_2.toNatClampNeg v5_3))), (h_a, .inr (5, [.ref h_a_d, .int a_n, .int a_minus])), (h_a_d, .inl (cI, a_d_n, .inl a_d)), (h_b, .inr (5, [.ref h_b_d, .int b_n, .int b_minus])), (h_b_d, .inl (cI, b_d_n, .inl b_d))] H := hP
            have hD : va_D A [(h_x, .inr (5, [.ref h_x_d, .int (s0_2 + 1), .int s0_6])), (h_x_d, .inl (cI, x_d_n, .inl (upd w_4 s0_2.toNatClampNeg v5_3))), (h_a, .inr (5, [.ref h_a_d, .int a_n, .int a_minus])), (h_a_d, .inl (cI, a_d_n, .inl a_d)), (h_b, .inr (5, [.ref h_b_d, .int b_n, .int b_minus])), (h_b_d, .inl (cI, b_d_n, .inl b_d))] := hD
            refine lv_aload_n hx hb d_Nu_less_186 rfl (lv_at hl 0 rfl) ?_
            obtain ⟨u_8, u_9, hc_10, h⟩ := ck_b2_s h
            have hPc := hP.sub (ws' := [(h_x, .inr (5, [.ref h_x_d, .int (s0_2 + 1), .int s0_6])), (h_x_d, .inl (cI, x_d_n, .inl (upd w_4 s0_2.toNatClampNeg v5_3)))]) [0, 1] rfl
            have hDc := hD.sub (ws' := [(h_x, .inr (5, [.ref h_x_d, .int (s0_2 + 1), .int s0_6])), (h_x_d, .inl (cI, x_d_n, .inl (upd w_4 s0_2.toNatClampNeg v5_3)))]) [0, 1] (by decide) rfl
            have hFc := va_free (wc := [(h_x, .inr (5, [.ref h_x_d, .int (s0_2 + 1), .int s0_6])), (h_x_d, .inl (cI, x_d_n, .inl (upd w_4 s0_2.toNatClampNeg v5_3)))]) hD hS hA [0, 1] rfl
            refine va_callv (va_runV (As := []) (rest := []) ⟨hx, hb, hml, hown, hts⟩ (c_N_trim l dC dI cI cJ cB cZ cT cN H.size h_x h_x_d (s0_2 + 1) s0_6 x_d_n (upd w_4 s0_2.toNatClampNeg v5_3) _ hc_10) (cwV 0 hts (tb_V tw_526 tw_527 tw_528 tw_7 tw_529) rfl rfl rfl (by decide +kernel) ⟨Nat.le_of_ble_eq_true rfl, Nat.le_of_ble_eq_true rfl⟩) ⟨fun a U g mk q => by obtain ⟨q0, q1, qP, qK, qN, qD⟩ := q; exact ⟨q0, q1, qP, va_K.moved (u := U) (U := U.calling g mk a) (Vm.Alike.refl U.vm) qK, qN.same rfl, qD⟩, va_recv hK hPc (ci := 5) (q0 := 0) rfl rfl, fun U hU hW => ⟨rfl, by rw [hU], by rw [hU]; exact hPc, va_K.moved hW.alike hK, hN.warm hW, hDc.weaken (fun _ _ _ _ => trivial)⟩⟩ rfl rfl hl.1 rfl (lv_room (Nat.le_of_ble_eq_true rfl)) d_Nu_less_187 ⟨Nat.zero_le _, Nat.zero_le _⟩) hS (fun q _ h => hFc q h) hFc (fun u t H1 locs ht hvm hw hB hz1 hk1 hS => ?_)
            replace hw := hw.symm
            subst hw
            obtain ⟨hP1, -, hD1⟩ := hB
            rw [ht] at hP1
            obtain ⟨hP, hD⟩ := va_join (wr := [(h_a, .inr (5, [.ref h_a_d, .int a_n, .int a_minus])), (h_a_d, .inl (cI, a_d_n, .inl a_d)), (h_b, .inr (5, [.ref h_b_d, .int b_n, .int b_minus])), (h_b_d, .inl (cI, b_d_n, .inl b_d))]) (w1 := [(h_x, .inr (5, [.ref h_x_d, .int u_8, .int u_9])), (h_x_d, .inl (cI, x_d_n, .inl (upd w_4 s0_2.toNatClampNeg v5_3)))]) hP hD [0, 1] [2, 3, 4, 5] rfl rfl (by decide) (by decide) hk1 hFc hP1 hD1
            generalize H1 = H at hP hS ⊢
            have hP : va_P (dC, dI) cl_all [(h_x, .inr (5, [.ref h_x_d, .int u_8, .int u_9])), (h_x_d, .inl (cI, x_d_n, .inl (upd w_4 s0_2.toNatClampNeg v5_3))), (h_a, .inr (5, [.ref h_a_d, .int a_n, .int a_minus])), (h_a_d, .inl (cI, a_d_n, .inl a_d)), (h_b, .inr (5, [.ref h_b_d, .int b_n, .int b_minus])), (h_b_d, .inl (cI, b_d_n, .inl b_d))] H := hP.sub [4, 5, 0, 1, 2, 3] rfl
            have hD : va_D A [(h_x, .inr (5, [.ref h_x_d, .int u_8, .int u_9])), (h_x_d, .inl (cI, x_d_n, .inl (upd w_4 s0_2.toNatClampNeg v5_3))), (h_a, .inr (5, [.ref h_a_d, .int a_n, .int a_minus])), (h_a_d, .inl (cI, a_d_n, .inl a_d)), (h_b, .inr (5, [.ref h_b_d, .int b_n, .int b_minus])), (h_b_d, .inl (cI, b_d_n, .inl b_d))] := hD.sub [4, 5, 0, 1, 2, 3] (by decide) rfl
            obtain rfl := Option.some.inj h
            subst hQ
            exact W.vret hx hb hr (fun t ht hW => ⟨⟨(u_8, u_9, (upd w_4 s0_2.toNatClampNeg v5_3)), rfl, rfl, by rw [ht]; exact hP, va_K.moved hW.alike hK, hD⟩, hS.F ht⟩) hS.2.2 d_Nu_less_190
          · intro k_183 J_183 h
            refine lv_if_ne (tgt := 179) hx hb d_Nu_less_172 (by decide) (fun c_11 => ?_) (fun c_11 => ?_)
            · replace h := ck_if_f h c_11
              refine lv_aload_n hx hb d_Nu_less_179 rfl (lv_at hl 1 rfl) ?_
              refine va_get (D := (dC, dI)) (ci := 5) (v := .int a_minus) (C := "BasisWalkModel$Num") (T := T_Nu) (N := 3) hx hb hts iw1 hown hK hP 2 rfl rfl 2 (by decide) fl3 (fun _ h9 => h9) rfl d_Nu_less_180 ?_
              exact J_183 _ h _ _ hP hD hS _ (lv_sub hl [0] rfl)
            · replace h := ck_if_t h c_11
              refine lv_iload_n hx hb d_Nu_less_175 rfl (lv_at hl 2 rfl) ?_
              refine lv_goto (tgt := 183) hx hb d_Nu_less_176 (by decide) ?_
              exact J_183 _ h _ _ hP hD hS _ (lv_sub hl [0] rfl)
        · intro k_150 J_150 h
          refine lo3_W (r := r) (fun (v6_12 : Int32) (v5_13 : Int32) (w_14 : Nat → Int32) => ∀ (H : Heap) (locs : List Loc), va_P (dC, dI) cl_all [(h_x, .inr (5, [.ref h_x_d, .int x_n, .int x_minus])), (h_x_d, .inl (cI, x_d_n, .inl w_14)), (h_a, .inr (5, [.ref h_a_d, .int a_n, .int a_minus])), (h_a_d, .inl (cI, a_d_n, .inl a_d)), (h_b, .inr (5, [.ref h_b_d, .int b_n, .int b_minus])), (h_b_d, .inl (cI, b_d_n, .inl b_d))] H → va_D A [(h_x, .inr (5, [.ref h_x_d, .int x_n, .int x_minus])), (h_x_d, .inl (cI, x_d_n, .inl w_14)), (h_a, .inr (5, [.ref h_a_d, .int a_n, .int a_minus])), (h_a_d, .inl (cI, a_d_n, .inl a_d)), (h_b, .inr (5, [.ref h_b_d, .int b_n, .int b_minus])), (h_b_d, .inl (cI, b_d_n, .inl b_d))] → va_S A s.heap H locs → ∀ ls : Array Slot, lv_has ls 10 [(0, .ref h_x), (1, .ref h_a), (2, .ref h_b), (3, .int s0_1), (4, .int s0_2), (5, .int v5_13), (6, .int v6_12)] → W p l e ({ frames := 1, cells := 0, slots := 0, locals := 22 } : Room) s m AR below meth c H locs 0 0 QQ (F0 m 72 ls [])) ?_ _ _ _ _ h _ _ hP hD hS _ (lv_sub hl [3, 4, 5, 6, 2, 1, 0] rfl)
          intro k_72 v6_12 v5_13 w_14 J_72 h H locs hP hD hS ls hl
          refine lv_iload hx hb d_Nu_less_72 (lv_at hl 6 rfl) ?_
          refine lv_iload hx hb d_Nu_less_74 (lv_at hl 4 rfl) ?_
          refine lv_icmp_ge (tgt := 150) hx hb d_Nu_less_76 (by decide) (fun c_15 => ?_) (fun c_15 => ?_)
          · replace h := ck_if_t h c_15
            exact J_150 _ _ h _ _ hP hD hS _ (lv_sub hl [0, 1, 3, 4, 5] rfl)
          · replace h := ck_if_f h c_15
            refine lv_iload hx hb d_Nu_less_79 (lv_at hl 5 rfl) ?_
            refine lv_iload hx hb d_Nu_less_81 (lv_at hl 6 rfl) ?_
            refine lv_aload_n hx hb d_Nu_less_83 rfl (lv_at hl 1 rfl) ?_
            refine va_get (D := (dC, dI)) (ci := 5) (v := .int a_n) (C := "BasisWalkModel$Num") (T := T_Nu) (N := 3) hx hb hts iw1 hown hK hP 2 rfl rfl 1 (by decide) fl0 (fun _ h9 => h9) rfl d_Nu_less_84 ?_
            refine ck_jn_W h (fun k' => ∀ (s0_16 : Int32), k' s0_16 = some r → ∀ (H : Heap) (locs : List Loc), va_P (dC, dI) cl_all [(h_x, .inr (5, [.ref h_x_d, .int x_n, .int x_minus])), (h_x_d, .inl (cI, x_d_n, .inl w_14)), (h_a, .inr (5, [.ref h_a_d, .int a_n, .int a_minus])), (h_a_d, .inl (cI, a_d_n, .inl a_d)), (h_b, .inr (5, [.ref h_b_d, .int b_n, .int b_minus])), (h_b_d, .inl (cI, b_d_n, .inl b_d))] H → va_D A [(h_x, .inr (5, [.ref h_x_d, .int x_n, .int x_minus])), (h_x_d, .inl (cI, x_d_n, .inl w_14)), (h_a, .inr (5, [.ref h_a_d, .int a_n, .int a_minus])), (h_a_d, .inl (cI, a_d_n, .inl a_d)), (h_b, .inr (5, [.ref h_b_d, .int b_n, .int b_minus])), (h_b_d, .inl (cI, b_d_n, .inl b_d))] → va_S A s.heap H locs → ∀ ls : Array Slot, lv_has ls 10 [(0, .ref h_x), (1, .ref h_a), (2, .ref h_b), (3, .int s0_1), (4, .int s0_2), (6, .int v6_12)] → W p l e ({ frames := 1, cells := 0, slots := 0, locals := 22 } : Room) s m AR below meth c H locs 0 0 QQ (F0 m 101 ls [.int s0_16, .int v5_13])) ?_ ?_
            · intro s0_16 h H locs hP hD hS ls hl
              refine lv_iload hx hb d_Nu_less_101 (lv_at hl 5 rfl) ?_
              refine lv_aload_n hx hb d_Nu_less_103 rfl (lv_at hl 2 rfl) ?_
              refine va_get (D := (dC, dI)) (ci := 5) (v := .int b_n) (C := "BasisWalkModel$Num") (T := T_Nu) (N := 3) hx hb hts iw1 hown hK hP 4 rfl rfl 1 (by decide) fl0 (fun _ h9 => h9) rfl d_Nu_less_104 ?_
              refine ck_jn_W h (fun k' => ∀ (s0_17 : Int32), k' s0_17 = some r → ∀ (H : Heap) (locs : List Loc), va_P (dC, dI) cl_all [(h_x, .inr (5, [.ref h_x_d, .int x_n, .int x_minus])), (h_x_d, .inl (cI, x_d_n, .inl w_14)), (h_a, .inr (5, [.ref h_a_d, .int a_n, .int a_minus])), (h_a_d, .inl (cI, a_d_n, .inl a_d)), (h_b, .inr (5, [.ref h_b_d, .int b_n, .int b_minus])), (h_b_d, .inl (cI, b_d_n, .inl b_d))] H → va_D A [(h_x, .inr (5, [.ref h_x_d, .int x_n, .int x_minus])), (h_x_d, .inl (cI, x_d_n, .inl w_14)), (h_a, .inr (5, [.ref h_a_d, .int a_n, .int a_minus])), (h_a_d, .inl (cI, a_d_n, .inl a_d)), (h_b, .inr (5, [.ref h_b_d, .int b_n, .int b_minus])), (h_b_d, .inl (cI, b_d_n, .inl b_d))] → va_S A s.heap H locs → ∀ ls : Array Slot, lv_has ls 10 [(0, .ref h_x), (1, .ref h_a), (2, .ref h_b), (3, .int s0_1), (4, .int s0_2), (6, .int v6_12)] → W p l e ({ frames := 1, cells := 0, slots := 0, locals := 22 } : Room) s m AR below meth c H locs 0 0 QQ (F0 m 121 ls [.int s0_17, .int s0_16, .int v5_13])) ?_ ?_
              · intro s0_17 h H locs hP hD hS ls hl
                refine lv_iadd hx hb d_Nu_less_121 ?_
                refine lv_iadd hx hb d_Nu_less_122 ?_
                refine lv_topi (fun x_18 ex_18 => ?_)
                replace h := ck_nm_s h ex_18
                refine lv_istore (lv' := [(5, .int x_18), (0, .ref h_x), (1, .ref h_a), (2, .ref h_b), (3, .int s0_1), (4, .int s0_2), (6, .int v6_12)]) hx hb d_Nu_less_123 hl (by decide) rfl (fun ls hl => ?_)
                refine lv_aload_n hx hb d_Nu_less_125 rfl (lv_at hl 1 rfl) ?_
                refine va_get (D := (dC, dI)) (ci := 5) (v := .ref h_x_d) (C := "BasisWalkModel$Num") (T := T_Nu) (N := 3) hx hb hts iw1 hown hK hP 0 rfl rfl 0 (by decide) fl2 (fun _ h9 => h9) rfl d_Nu_less_126 ?_
                refine lv_iload hx hb d_Nu_less_129 (lv_at hl 6 rfl) ?_
                refine lv_iload hx hb d_Nu_less_131 (lv_at hl 0 rfl) ?_
                refine lv_ldc (v := 65536) hx hb hown kc4 d_Nu_less_133 ?_
                refine lv_irem hx hb d_Nu_less_135 (by decide) ?_
                obtain ⟨g_19, h⟩ := ck_in_s h
                refine va_iast hx hb hK hP hD hS 1 0 rfl rfl g_19 d_Nu_less_136 (fun H locs hP hD hS => ?_)
                have hP : va_P (dC, dI) cl_all [(h_x, .inr (5, [.ref h_x_d, .int x_n, .int x_minus])), (h_x_d, .inl (cI, x_d_n, .inl (upd w_14 v6_12.toNatClampNeg (x_18 - x_18 / 65536 * 65536)))), (h_a, .inr (5, [.ref h_a_d, .int a_n, .int a_minus])), (h_a_d, .inl (cI, a_d_n, .inl a_d)), (h_b, .inr (5, [.ref h_b_d, .int b_n, .int b_minus])), (h_b_d, .inl (cI, b_d_n, .inl b_d))] H := hP
                have hD : va_D A [(h_x, .inr (5, [.ref h_x_d, .int x_n, .int x_minus])), (h_x_d, .inl (cI, x_d_n, .inl (upd w_14 v6_12.toNatClampNeg (x_18 - x_18 / 65536 * 65536)))), (h_a, .inr (5, [.ref h_a_d, .int a_n, .int a_minus])), (h_a_d, .inl (cI, a_d_n, .inl a_d)), (h_b, .inr (5, [.ref h_b_d, .int b_n, .int b_minus])), (h_b_d, .inl (cI, b_d_n, .inl b_d))] := hD
                refine lv_iload hx hb d_Nu_less_137 (lv_at hl 0 rfl) ?_
                refine lv_ldc (v := 65536) hx hb hown kc4 d_Nu_less_139 ?_
                refine lv_idiv hx hb d_Nu_less_141 (by decide) ?_
                refine lv_topi (fun x_20 ex_20 => ?_)
                replace h := ck_nm_s h ex_20
                refine lv_istore (lv' := [(5, .int x_20), (0, .ref h_x), (1, .ref h_a), (2, .ref h_b), (3, .int s0_1), (4, .int s0_2), (6, .int v6_12)]) hx hb d_Nu_less_142 hl (by decide) rfl (fun ls hl => ?_)
                obtain ⟨x_21, ex_21⟩ : ∃ y : Int32, y = v6_12 + 1 := ⟨_, rfl⟩
                replace h := ck_nm_s h ex_21
                refine lv_iinc (v := x_21) (lv' := [(6, .int x_21), (5, .int x_20), (0, .ref h_x), (1, .ref h_a), (2, .ref h_b), (3, .int s0_1), (4, .int s0_2)]) hx hb d_Nu_less_144 hl (k := 6) rfl (by rw [ex_21]; rfl) (by decide) rfl (fun ls hl => ?_)
                refine lv_goto (tgt := 72) hx hb d_Nu_less_147 (by decide) ?_
                exact J_72 _ _ _ h _ _ hP hD hS _ (lv_sub hl [2, 3, 4, 5, 6, 1, 0] rfl)
              · intro k_121 J_121 h
                refine lv_icmp_ge (tgt := 120) hx hb d_Nu_less_107 (by decide) (fun c_22 => ?_) (fun c_22 => ?_)
                · replace h := ck_if_t h c_22
                  refine lv_iconst (v := 0) hx hb d_Nu_less_120 (by decide) ?_
                  exact J_121 _ h _ _ hP hD hS _ (lv_sub hl [0, 1, 2, 3, 4, 5] rfl)
                · replace h := ck_if_f h c_22
                  refine lv_aload_n hx hb d_Nu_less_110 rfl (lv_at hl 2 rfl) ?_
                  refine va_get (D := (dC, dI)) (ci := 5) (v := .ref h_b_d) (C := "BasisWalkModel$Num") (T := T_Nu) (N := 3) hx hb hts iw1 hown hK hP 4 rfl rfl 0 (by decide) fl2 (fun _ h9 => h9) rfl d_Nu_less_111 ?_
                  refine lv_iload hx hb d_Nu_less_114 (lv_at hl 5 rfl) ?_
                  obtain ⟨g_23, h⟩ := ck_in_s h
                  refine va_iald hx hb hK hP 5 0 rfl rfl g_23 d_Nu_less_116 ?_
                  refine lv_goto (tgt := 121) hx hb d_Nu_less_117 (by decide) ?_
                  exact J_121 _ h _ _ hP hD hS _ (lv_sub hl [0, 1, 2, 3, 4, 5] rfl)
            · intro k_101 J_101 h
              refine lv_icmp_ge (tgt := 100) hx hb d_Nu_less_87 (by decide) (fun c_24 => ?_) (fun c_24 => ?_)
              · replace h := ck_if_t h c_24
                refine lv_iconst (v := 0) hx hb d_Nu_less_100 (by decide) ?_
                exact J_101 _ h _ _ hP hD hS _ (lv_sub hl [0, 1, 2, 3, 4, 6] rfl)
              · replace h := ck_if_f h c_24
                refine lv_aload_n hx hb d_Nu_less_90 rfl (lv_at hl 1 rfl) ?_
                refine va_get (D := (dC, dI)) (ci := 5) (v := .ref h_a_d) (C := "BasisWalkModel$Num") (T := T_Nu) (N := 3) hx hb hts iw1 hown hK hP 2 rfl rfl 0 (by decide) fl2 (fun _ h9 => h9) rfl d_Nu_less_91 ?_
                refine lv_iload hx hb d_Nu_less_94 (lv_at hl 6 rfl) ?_
                obtain ⟨g_25, h⟩ := ck_in_s h
                refine va_iald hx hb hK hP 3 0 rfl rfl g_25 d_Nu_less_96 ?_
                refine lv_goto (tgt := 101) hx hb d_Nu_less_97 (by decide) ?_
                exact J_101 _ h _ _ hP hD hS _ (lv_sub hl [0, 1, 2, 3, 4, 6] rfl)
      · intro k_64 J_64 h
        refine lv_icmp_le (tgt := 60) hx hb d_Nu_less_50 (by decide) (fun c_26 => ?_) (fun c_26 => ?_)
        · replace h := ck_if_t h c_26
          refine lv_aload_n hx hb d_Nu_less_60 rfl (lv_at hl 2 rfl) ?_
          refine va_get (D := (dC, dI)) (ci := 5) (v := .int b_n) (C := "BasisWalkModel$Num") (T := T_Nu) (N := 3) hx hb hts iw1 hown hK hP 4 rfl rfl 1 (by decide) fl0 (fun _ h9 => h9) rfl d_Nu_less_61 ?_
          exact J_64 _ h _ _ hP hD hS _ (lv_sub hl [0, 1, 2, 3] rfl)
        · replace h := ck_if_f h c_26
          refine lv_aload_n hx hb d_Nu_less_53 rfl (lv_at hl 1 rfl) ?_
          refine va_get (D := (dC, dI)) (ci := 5) (v := .int a_n) (C := "BasisWalkModel$Num") (T := T_Nu) (N := 3) hx hb hts iw1 hown hK hP 2 rfl rfl 1 (by decide) fl0 (fun _ h9 => h9) rfl d_Nu_less_54 ?_
          refine lv_goto (tgt := 64) hx hb d_Nu_less_57 (by decide) ?_
          exact J_64 _ h _ _ hP hD hS _ (lv_sub hl [0, 1, 2, 3] rfl)
    · intro k_42 J_42 h
      refine lv_if_eq (tgt := 42) hx hb d_Nu_less_24 (by decide) (fun c_27 => ?_) (fun c_27 => ?_)
      · replace h := ck_if_t h c_27
        exact J_42 _ h _ _ hP hD hS _ (lv_sub hl [1, 2, 3, 0] rfl)
      · replace h := ck_if_f h c_27
        refine lv_aload_n hx hb d_Nu_less_27 rfl (lv_at hl 3 rfl) ?_
        refine va_get (D := (dC, dI)) (ci := 5) (v := .int b_n) (C := "BasisWalkModel$Num") (T := T_Nu) (N := 3) hx hb hts iw1 hown hK hP 4 rfl rfl 1 (by decide) fl0 (fun _ h9 => h9) rfl d_Nu_less_28 ?_
        refine lv_if_eq (tgt := 42) hx hb d_Nu_less_31 (by decide) (fun c_28 => ?_) (fun c_28 => ?_)
        · replace h := ck_if_t h c_28
          exact J_42 _ h _ _ hP hD hS _ (lv_sub hl [1, 2, 3, 0] rfl)
        · replace h := ck_if_f h c_28
          refine lv_aload_n hx hb d_Nu_less_34 rfl (lv_at hl 2 rfl) ?_
          refine va_get (D := (dC, dI)) (ci := 5) (v := .int a_minus) (C := "BasisWalkModel$Num") (T := T_Nu) (N := 3) hx hb hts iw1 hown hK hP 2 rfl rfl 2 (by decide) fl3 (fun _ h9 => h9) rfl d_Nu_less_35 ?_
          refine lv_iload_n hx hb d_Nu_less_38 rfl (lv_at hl 0 rfl) ?_
          refine lv_icmp_ne (tgt := 191) hx hb d_Nu_less_39 (by decide) (fun c_29 => ?_) (fun c_29 => ?_)
          · exact absurd (ck_if_f h c_29) (by simp)
          · replace h := ck_if_t h c_29
            exact J_42 _ h _ _ hP hD hS _ (lv_sub hl [1, 2, 3, 0] rfl)
  · intro k_19 J_19 h
    refine ck_jn_W h (fun k' => ∀ u : Unit, k' u = some r → ∀ (H : Heap) (locs : List Loc), va_P (dC, dI) cl_all [(h_x, .inr (5, [.ref h_x_d, .int x_n, .int x_minus])), (h_x_d, .inl (cI, x_d_n, .inl x_d)), (h_a, .inr (5, [.ref h_a_d, .int a_n, .int a_minus])), (h_a_d, .inl (cI, a_d_n, .inl a_d)), (h_b, .inr (5, [.ref h_b_d, .int b_n, .int b_minus])), (h_b_d, .inl (cI, b_d_n, .inl b_d))] H → va_D A [(h_x, .inr (5, [.ref h_x_d, .int x_n, .int x_minus])), (h_x_d, .inl (cI, x_d_n, .inl x_d)), (h_a, .inr (5, [.ref h_a_d, .int a_n, .int a_minus])), (h_a_d, .inl (cI, a_d_n, .inl a_d)), (h_b, .inr (5, [.ref h_b_d, .int b_n, .int b_minus])), (h_b_d, .inl (cI, b_d_n, .inl b_d))] → va_S A s.heap H locs → ∀ ls : Array Slot, lv_has ls 10 [(0, .ref h_x), (1, .ref h_a), (2, .ref h_b)] → W p l e ({ frames := 1, cells := 0, slots := 0, locals := 22 } : Room) s m AR below meth c H locs 0 0 QQ (F0 m 18 ls [])) ?_ ?_
    · intro _ h H locs hP hD hS ls hl
      refine lv_iconst (v := 0) hx hb d_Nu_less_18 (by decide) ?_
      exact J_19 _ h _ _ hP hD hS _ (lv_sub hl [0, 1, 2] rfl)
    · intro k_18 J_18 h
      refine lv_if_le (tgt := 18) hx hb d_Nu_less_4 (by decide) (fun c_30 => ?_) (fun c_30 => ?_)
      · replace h := ck_if_t h c_30
        exact J_18 _ h _ _ hP hD hS _ (lv_sub hl [0, 1, 2] rfl)
      · replace h := ck_if_f h c_30
        refine lv_aload_n hx hb d_Nu_less_7 rfl (lv_at hl 2 rfl) ?_
        refine va_get (D := (dC, dI)) (ci := 5) (v := .int b_minus) (C := "BasisWalkModel$Num") (T := T_Nu) (N := 3) hx hb hts iw1 hown hK hP 4 rfl rfl 2 (by decide) fl3 (fun _ h9 => h9) rfl d_Nu_less_8 ?_
        refine lv_if_ne (tgt := 18) hx hb d_Nu_less_11 (by decide) (fun c_31 => ?_) (fun c_31 => ?_)
        · replace h := ck_if_f h c_31
          exact J_18 _ h _ _ hP hD hS _ (lv_sub hl [0, 1, 2] rfl)
        · replace h := ck_if_t h c_31
          refine lv_iconst (v := 1) hx hb d_Nu_less_14 (by decide) ?_
          refine lv_goto (tgt := 19) hx hb d_Nu_less_15 (by decide) ?_
          exact J_19 _ h _ _ hP hD hS _ (lv_sub hl [0, 1, 2] rfl)
def f_N_lessB (x_d_n : Nat) (x_d : Nat → Int32) (a_n : Int32) (a_minus : Int32) (a_d_n : Nat) (a_d : Nat → Int32) (b_n : Int32) (b_minus : Int32) (b_d_n : Nat) (b_d : Nat → Int32) : Option (Int32 × Int32 × (Nat → Int32)) :=
  ck_jn (fun (s0_1 : Int32) => ck_if (a_n = 0) (none) (ck_if (b_n = 0) (none) (ck_if (a_minus = s0_1) (none) (ck_b1 (f_N_compareSize a_n a_d_n a_d b_n b_d_n b_d) <| fun r_5 => ck_if (r_5 < 0) (none) (ck_if ((1 : Int32) = 0) (none) (ck_if ((1 : Int32) = 0) (none) (ck_jn (fun (w_10 : Nat → Int32) => ck_if ((1 : Int32) = 0) (none) (ck_z a_minus <| ck_b2 (f_N_trim a_n a_minus x_d_n w_10) <| fun u_13 u_14 => some (u_13, u_14, w_10))) <| fun k_315 => lo3 (fun k_236 (v8_16 : Int32) (v7_17 : Int32) (w_18 : Nat → Int32) => ck_if (a_n ≤ v8_16) (k_315 w_18) (ck_in v8_16 a_d_n <| ck_jn (fun (s0_21 : Int32) => ck_nm (((a_d v8_16.toNatClampNeg) - s0_21) - v7_17) <| fun x_22 => ck_jn (fun (s0_23 : Int32) => ck_in v8_16 x_d_n <| ck_nm (v8_16 + 1) <| fun x_25 => k_236 x_25 s0_23 (upd w_18 v8_16.toNatClampNeg (x_22 + (65536 * s0_23)))) <| fun k_292 => ck_if (0 ≤ x_22) (k_292 0) (k_292 1)) <| fun k_276 => ck_if (b_n ≤ v8_16) (k_276 0) (ck_in v8_16 b_d_n <| k_276 (b_d v8_16.toNatClampNeg)))) ck_F 0 0 x_d))))))) <| fun k_19 => ck_jn (fun (_ : Unit) => k_19 0) <| fun k_18 => ck_if (b_n ≤ 0) (k_18 ()) (ck_if (b_minus = 0) (k_19 1) (k_18 ()))
set_option maxHeartbeats 4000000 in
set_option maxRecDepth 100000 in
theorem c_N_lessB (l : Launch) (dC : Nat → ClassId) (dI : Nat → Nat → Nat) (cI cJ cB cZ cT cN : ClassId) (sz : Nat) (h_x : Nat) (h_a : Nat) (h_b : Nat) (h_x_d : Nat) (h_a_d : Nat) (h_b_d : Nat) (x_n : Int32) (x_minus : Int32) (x_d_n : Nat) (x_d : Nat → Int32) (a_n : Int32) (a_minus : Int32) (a_d_n : Nat) (a_d : Nat → Int32) (b_n : Int32) (b_minus : Int32) (b_d_n : Nat) (b_d : Nat → Int32) (r : Int32 × Int32 × (Nat → Int32)) (h : f_N_lessB x_d_n x_d a_n a_minus a_d_n a_d b_n b_minus b_d_n b_d = some r) : Met l y_Nu_less w_Nu_less ({ frames := 1, cells := 0, slots := 0, locals := 22 } : Room) (va_Pc [.ref h_x, .ref h_a, .ref h_b] (fun U => U.heap.size = sz ∧ va_P (dC, dI) cl_all [(h_x, .inr (5, [.ref h_x_d, .int x_n, .int x_minus])), (h_x_d, .inl (cI, x_d_n, .inl x_d)), (h_a, .inr (5, [.ref h_a_d, .int a_n, .int a_minus])), (h_a_d, .inl (cI, a_d_n, .inl a_d)), (h_b, .inr (5, [.ref h_b_d, .int b_n, .int b_minus])), (h_b_d, .inl (cI, b_d_n, .inl b_d))] U.heap ∧ va_K (dC, dI) cl_all [(cI, .int), (cJ, .long), (cB, .byte), (cZ, .boolean), (cT, .object "BasisWalk$Table"), (cN, .object "BasisWalkModel$Num")] U ∧ NW U ∧ va_D (fun _ => True) [(h_x, .inr (5, [.ref h_x_d, .int x_n, .int x_minus])), (h_x_d, .inl (cI, x_d_n, .inl x_d)), (h_a, .inr (5, [.ref h_a_d, .int a_n, .int a_minus])), (h_a_d, .inl (cI, a_d_n, .inl a_d)), (h_b, .inr (5, [.ref h_b_d, .int b_n, .int b_minus])), (h_b_d, .inl (cI, b_d_n, .inl b_d))])) (va_Qv (fun u : Int32 × Int32 × (Nat → Int32) => u = r) (fun (u : Int32 × Int32 × (Nat → Int32)) (t : State) => va_P (dC, dI) cl_all [(h_x, .inr (5, [.ref h_x_d, .int u.1, .int u.2.1])), (h_x_d, .inl (cI, x_d_n, .inl u.2.2)), (h_a, .inr (5, [.ref h_a_d, .int a_n, .int a_minus])), (h_a_d, .inl (cI, a_d_n, .inl a_d)), (h_b, .inr (5, [.ref h_b_d, .int b_n, .int b_minus])), (h_b_d, .inl (cI, b_d_n, .inl b_d))] t.heap ∧ va_K (dC, dI) cl_all [(cI, .int), (cJ, .long), (cB, .byte), (cZ, .boolean), (cT, .object "BasisWalk$Table"), (cN, .object "BasisWalkModel$Num")] t ∧ va_D (va_A [(h_x, .inr (5, [.ref h_x_d, .int x_n, .int x_minus])), (h_x_d, .inl (cI, x_d_n, .inl x_d)), (h_a, .inr (5, [.ref h_a_d, .int a_n, .int a_minus])), (h_a_d, .inl (cI, a_d_n, .inl a_d)), (h_b, .inr (5, [.ref h_b_d, .int b_n, .int b_minus])), (h_b_d, .inl (cI, b_d_n, .inl b_d))] sz) [(h_x, .inr (5, [.ref h_x_d, .int u.1, .int u.2.1])), (h_x_d, .inl (cI, x_d_n, .inl u.2.2)), (h_a, .inr (5, [.ref h_a_d, .int a_n, .int a_minus])), (h_a_d, .inl (cI, a_d_n, .inl a_d)), (h_b, .inr (5, [.ref h_b_d, .int b_n, .int b_minus])), (h_b_d, .inl (cI, b_d_n, .inl b_d))]) (va_A [(h_x, .inr (5, [.ref h_x_d, .int x_n, .int x_minus])), (h_x_d, .inl (cI, x_d_n, .inl x_d)), (h_a, .inr (5, [.ref h_a_d, .int a_n, .int a_minus])), (h_a_d, .inl (cI, a_d_n, .inl a_d)), (h_b, .inr (5, [.ref h_b_d, .int b_n, .int b_minus])), (h_b_d, .inl (cI, b_d_n, .inl b_d))] sz)) 0 0 (va_A [(h_x, .inr (5, [.ref h_x_d, .int x_n, .int x_minus])), (h_x_d, .inl (cI, x_d_n, .inl x_d)), (h_a, .inr (5, [.ref h_a_d, .int a_n, .int a_minus])), (h_a_d, .inl (cI, a_d_n, .inl a_d)), (h_b, .inr (5, [.ref h_b_d, .int b_n, .int b_minus])), (h_b_d, .inl (cI, b_d_n, .inl b_d))] sz) := by
  refine Met.ofW (cc := prog_8_method_10_code) (maxL := 10) (ret := (Option.none : Option Jvm.ClassFile.FieldType)) (by decide) rfl ?_
  intro p e s m args below meth c s₁ B hml hv
  obtain ⟨hAR, hsz, hP, hK, hN, hD0⟩ := hv
  have hx := B.exec
  have hb := B.bytes
  have hr := B.returns
  have hts := atoms_spec (ws := w_Nu_less) B.pre
  have hown : s.vm.findClass "BasisWalkModel$Num" = some m.cls := findClass_of_methodNamed B.named
  have hlocks := B.notSynchronized
  clear B
  subst hsz
  have hD := hD0.self (sz := s.heap.size)
  generalize hAe : va_A [(h_x, .inr (5, [.ref h_x_d, .int x_n, .int x_minus])), (h_x_d, .inl (cI, x_d_n, .inl x_d)), (h_a, .inr (5, [.ref h_a_d, .int a_n, .int a_minus])), (h_a_d, .inl (cI, a_d_n, .inl a_d)), (h_b, .inr (5, [.ref h_b_d, .int b_n, .int b_minus])), (h_b_d, .inl (cI, b_d_n, .inl b_d))] s.heap.size = A at hD ⊢
  have hA : ∀ q : Nat, s.heap.size ≤ q → A q := fun q h => by rw [← hAe]; exact Or.inr h
  clear hAe hD0
  have hS : va_S A s.heap s.heap [] := va_S.rf
  have hl := lv_entry ([.ref h_x, .ref h_a, .ref h_b]) (n := 10) (Nat.le_of_ble_eq_true rfl)
  subst hAR
  rw [lg_entry_eq]
  generalize (lg_sl ([.ref h_x, .ref h_a, .ref h_b]) ++ List.replicate (10 - (lg_sl ([.ref h_x, .ref h_a, .ref h_b])).length) Slot.unset).toArray = ls at hl ⊢
  have hl : lv_has ls 10 [(0, .ref h_x), (1, .ref h_a), (2, .ref h_b)] := hl
  change W p l e ({ frames := 1, cells := 0, slots := 0, locals := 22 } : Room) s m _ below meth c s.heap [] 0 0 _ _
  generalize hARe : ([.ref h_x, .ref h_a, .ref h_b] : List Value).toArray = AR at hts ⊢
  clear hARe
  generalize hQ : MQ below _ AR s 0 0 A = QQ
  have fl0 := hts _ (List.mem_cons_of_mem _ tw_340)
  have iw1 := (fun w hw => List.mem_cons_of_mem _ (in_Nu w hw) : ∀ w ∈ u_ws "BasisWalkModel$Num" T_Nu 3, w ∈ w_Nu_less)
  have fl2 := hts _ (List.mem_cons_of_mem _ tw_342)
  have fl3 := hts _ (List.mem_cons_of_mem _ tw_338)
  have kc4 := hts _ (List.mem_cons_of_mem _ tw_534)
  obtain ⟨H, hHe⟩ : ∃ H : Heap, H = s.heap := ⟨_, rfl⟩
  rw [← hHe] at hP ⊢
  replace hS : va_S A s.heap H [] := by rw [hHe]; exact va_S.rf
  clear hHe
  unfold f_N_lessB at h
  refine lv_aload_n hx hb d_Nu_less_0 rfl (lv_at hl 2 rfl) ?_
  refine va_get (D := (dC, dI)) (ci := 5) (v := .int b_n) (C := "BasisWalkModel$Num") (T := T_Nu) (N := 3) hx hb hts iw1 hown hK hP 4 rfl rfl 1 (by decide) fl0 (fun _ h9 => h9) rfl d_Nu_less_1 ?_
  refine ck_jn_W h (fun k' => ∀ (s0_1 : Int32), k' s0_1 = some r → ∀ (H : Heap) (locs : List Loc), va_P (dC, dI) cl_all [(h_x, .inr (5, [.ref h_x_d, .int x_n, .int x_minus])), (h_x_d, .inl (cI, x_d_n, .inl x_d)), (h_a, .inr (5, [.ref h_a_d, .int a_n, .int a_minus])), (h_a_d, .inl (cI, a_d_n, .inl a_d)), (h_b, .inr (5, [.ref h_b_d, .int b_n, .int b_minus])), (h_b_d, .inl (cI, b_d_n, .inl b_d))] H → va_D A [(h_x, .inr (5, [.ref h_x_d, .int x_n, .int x_minus])), (h_x_d, .inl (cI, x_d_n, .inl x_d)), (h_a, .inr (5, [.ref h_a_d, .int a_n, .int a_minus])), (h_a_d, .inl (cI, a_d_n, .inl a_d)), (h_b, .inr (5, [.ref h_b_d, .int b_n, .int b_minus])), (h_b_d, .inl (cI, b_d_n, .inl b_d))] → va_S A s.heap H locs → ∀ ls : Array Slot, lv_has ls 10 [(0, .ref h_x), (1, .ref h_a), (2, .ref h_b)] → W p l e ({ frames := 1, cells := 0, slots := 0, locals := 22 } : Room) s m AR below meth c H locs 0 0 QQ (F0 m 19 ls [.int s0_1])) ?_ ?_
  · intro s0_1 h H locs hP hD hS ls hl
    refine lv_istore_n (lv' := [(3, .int s0_1), (0, .ref h_x), (1, .ref h_a), (2, .ref h_b)]) hx hb d_Nu_less_19 rfl hl (by decide) rfl (fun ls hl => ?_)
    refine lv_aload_n hx hb d_Nu_less_20 rfl (lv_at hl 2 rfl) ?_
    refine va_get (D := (dC, dI)) (ci := 5) (v := .int a_n) (C := "BasisWalkModel$Num") (T := T_Nu) (N := 3) hx hb hts iw1 hown hK hP 2 rfl rfl 1 (by decide) fl0 (fun _ h9 => h9) rfl d_Nu_less_21 ?_
    refine lv_if_eq (tgt := 42) hx hb d_Nu_less_24 (by decide) (fun c_2 => ?_) (fun c_2 => ?_)
    · exact absurd (ck_if_t h c_2) (by simp)
    · replace h := ck_if_f h c_2
      refine lv_aload_n hx hb d_Nu_less_27 rfl (lv_at hl 3 rfl) ?_
      refine va_get (D := (dC, dI)) (ci := 5) (v := .int b_n) (C := "BasisWalkModel$Num") (T := T_Nu) (N := 3) hx hb hts iw1 hown hK hP 4 rfl rfl 1 (by decide) fl0 (fun _ h9 => h9) rfl d_Nu_less_28 ?_
      refine lv_if_eq (tgt := 42) hx hb d_Nu_less_31 (by decide) (fun c_3 => ?_) (fun c_3 => ?_)
      · exact absurd (ck_if_t h c_3) (by simp)
      · replace h := ck_if_f h c_3
        refine lv_aload_n hx hb d_Nu_less_34 rfl (lv_at hl 2 rfl) ?_
        refine va_get (D := (dC, dI)) (ci := 5) (v := .int a_minus) (C := "BasisWalkModel$Num") (T := T_Nu) (N := 3) hx hb hts iw1 hown hK hP 2 rfl rfl 2 (by decide) fl2 (fun _ h9 => h9) rfl d_Nu_less_35 ?_
        refine lv_iload_n hx hb d_Nu_less_38 rfl (lv_at hl 0 rfl) ?_
        refine lv_icmp_ne (tgt := 191) hx hb d_Nu_less_39 (by decide) (fun c_4 => ?_) (fun c_4 => ?_)
        · replace h := ck_if_f h c_4
          refine lv_aload_n hx hb d_Nu_less_191 rfl (lv_at hl 2 rfl) ?_
          refine lv_aload_n hx hb d_Nu_less_192 rfl (lv_at hl 3 rfl) ?_
          obtain ⟨r_5, hc_6, h⟩ := ck_b1_s h
          have hPc := hP.sub (ws' := [(h_a, .inr (5, [.ref h_a_d, .int a_n, .int a_minus])), (h_a_d, .inl (cI, a_d_n, .inl a_d)), (h_b, .inr (5, [.ref h_b_d, .int b_n, .int b_minus])), (h_b_d, .inl (cI, b_d_n, .inl b_d))]) [2, 3, 4, 5] rfl
          have hDc := hD.sub (ws' := [(h_a, .inr (5, [.ref h_a_d, .int a_n, .int a_minus])), (h_a_d, .inl (cI, a_d_n, .inl a_d)), (h_b, .inr (5, [.ref h_b_d, .int b_n, .int b_minus])), (h_b_d, .inl (cI, b_d_n, .inl b_d))]) [2, 3, 4, 5] (by decide) rfl
          have hFc := va_free (wc := [(h_a, .inr (5, [.ref h_a_d, .int a_n, .int a_minus])), (h_a_d, .inl (cI, a_d_n, .inl a_d)), (h_b, .inr (5, [.ref h_b_d, .int b_n, .int b_minus])), (h_b_d, .inl (cI, b_d_n, .inl b_d))]) hD hS hA [2, 3, 4, 5] rfl
          refine va_calli (va_runV (As := [.ref h_b]) (rest := []) ⟨hx, hb, hml, hown, hts⟩ (c_N_compareSize l dC dI cI cJ cB cZ cT cN H.size h_a h_b h_a_d h_b_d a_n a_minus a_d_n a_d b_n b_minus b_d_n b_d _ hc_6) (cwV 1 hts (tb_V tw_535 tw_536 tw_537 tw_7 tw_538) rfl rfl rfl (by decide +kernel) ⟨Nat.le_of_ble_eq_true rfl, Nat.le_of_ble_eq_true rfl⟩) ⟨fun a U g mk q => by obtain ⟨q0, q1, qP, qK, qN, qD⟩ := q; exact ⟨q0, q1, qP, va_K.moved (u := U) (U := U.calling g mk a) (Vm.Alike.refl U.vm) qK, qN.same rfl, qD⟩, va_recv hK hPc (ci := 5) (q0 := 0) rfl rfl, fun U hU hW => ⟨rfl, by rw [hU], by rw [hU]; exact hPc, va_K.moved hW.alike hK, hN.warm hW, hDc.weaken (fun _ _ _ _ => trivial)⟩⟩ rfl rfl hl.1 rfl (lv_room (Nat.le_of_ble_eq_true rfl)) d_Nu_less_193 ⟨Nat.zero_le _, Nat.zero_le _⟩) hS (fun q _ h => hFc q h) hFc (fun rr u t H1 locs ht hvm hw hB hz1 hk1 hS => ?_)
          replace hw := hw.symm
          subst hw
          obtain ⟨hP1, -, hD1⟩ := hB
          rw [ht] at hP1
          obtain ⟨hP, hD⟩ := va_join (wr := [(h_x, .inr (5, [.ref h_x_d, .int x_n, .int x_minus])), (h_x_d, .inl (cI, x_d_n, .inl x_d))]) (w1 := [(h_a, .inr (5, [.ref h_a_d, .int a_n, .int a_minus])), (h_a_d, .inl (cI, a_d_n, .inl a_d)), (h_b, .inr (5, [.ref h_b_d, .int b_n, .int b_minus])), (h_b_d, .inl (cI, b_d_n, .inl b_d))]) hP hD [2, 3, 4, 5] [0, 1] rfl rfl (by decide) (by decide) hk1 hFc hP1 hD1
          generalize H1 = H at hP hS ⊢
          have hP : va_P (dC, dI) cl_all [(h_x, .inr (5, [.ref h_x_d, .int x_n, .int x_minus])), (h_x_d, .inl (cI, x_d_n, .inl x_d)), (h_a, .inr (5, [.ref h_a_d, .int a_n, .int a_minus])), (h_a_d, .inl (cI, a_d_n, .inl a_d)), (h_b, .inr (5, [.ref h_b_d, .int b_n, .int b_minus])), (h_b_d, .inl (cI, b_d_n, .inl b_d))] H := hP.sub [0, 1, 2, 3, 4, 5] rfl
          have hD : va_D A [(h_x, .inr (5, [.ref h_x_d, .int x_n, .int x_minus])), (h_x_d, .inl (cI, x_d_n, .inl x_d)), (h_a, .inr (5, [.ref h_a_d, .int a_n, .int a_minus])), (h_a_d, .inl (cI, a_d_n, .inl a_d)), (h_b, .inr (5, [.ref h_b_d, .int b_n, .int b_minus])), (h_b_d, .inl (cI, b_d_n, .inl b_d))] := hD.sub [0, 1, 2, 3, 4, 5] (by decide) rfl
          refine lv_if_lt (tgt := 203) hx hb d_Nu_less_196 (by decide) (fun c_7 => ?_) (fun c_7 => ?_)
          · exact absurd (ck_if_t h c_7) (by simp)
          · replace h := ck_if_f h c_7
            refine lv_iconst (v := 1) hx hb d_Nu_less_199 (by decide) ?_
            refine lv_goto (tgt := 204) hx hb d_Nu_less_200 (by decide) ?_
            refine lv_istore (lv' := [(4, .int 1), (3, .int s0_1), (0, .ref h_x), (1, .ref h_a), (2, .ref h_b)]) hx hb d_Nu_less_204 hl (by decide) rfl (fun ls hl => ?_)
            refine lv_iload hx hb d_Nu_less_206 (lv_at hl 0 rfl) ?_
            refine lv_if_eq (tgt := 215) hx hb d_Nu_less_208 (by decide) (fun c_8 => ?_) (fun c_8 => ?_)
            · exact absurd (ck_if_t h c_8) (by simp)
            · replace h := ck_if_f h c_8
              refine lv_aload_n hx hb d_Nu_less_211 rfl (lv_at hl 3 rfl) ?_
              refine lv_goto (tgt := 216) hx hb d_Nu_less_212 (by decide) ?_
              refine lv_astore (lv' := [(5, .ref h_a), (4, .int 1), (3, .int s0_1), (0, .ref h_x), (1, .ref h_a), (2, .ref h_b)]) hx hb d_Nu_less_216 hl (by decide) rfl (fun ls hl => ?_)
              refine lv_iload hx hb d_Nu_less_218 (lv_at hl 1 rfl) ?_
              refine lv_if_eq (tgt := 227) hx hb d_Nu_less_220 (by decide) (fun c_9 => ?_) (fun c_9 => ?_)
              · exact absurd (ck_if_t h c_9) (by simp)
              · replace h := ck_if_f h c_9
                refine lv_aload_n hx hb d_Nu_less_223 rfl (lv_at hl 5 rfl) ?_
                refine lv_goto (tgt := 228) hx hb d_Nu_less_224 (by decide) ?_
                refine lv_astore (lv' := [(6, .ref h_b), (5, .ref h_a), (4, .int 1), (3, .int s0_1), (0, .ref h_x), (1, .ref h_a), (2, .ref h_b)]) hx hb d_Nu_less_228 hl (by decide) rfl (fun ls hl => ?_)
                refine lv_iconst (v := 0) hx hb d_Nu_less_230 (by decide) ?_
                refine lv_istore (lv' := [(7, .int 0), (6, .ref h_b), (5, .ref h_a), (4, .int 1), (3, .int s0_1), (0, .ref h_x), (1, .ref h_a), (2, .ref h_b)]) hx hb d_Nu_less_231 hl (by decide) rfl (fun ls hl => ?_)
                refine lv_iconst (v := 0) hx hb d_Nu_less_233 (by decide) ?_
                refine lv_istore (lv' := [(8, .int 0), (7, .int 0), (6, .ref h_b), (5, .ref h_a), (4, .int 1), (3, .int s0_1), (0, .ref h_x), (1, .ref h_a), (2, .ref h_b)]) hx hb d_Nu_less_234 hl (by decide) rfl (fun ls hl => ?_)
                refine ck_jn_W h (fun k' => ∀ (w_10 : Nat → Int32), k' w_10 = some r → ∀ (H : Heap) (locs : List Loc), va_P (dC, dI) cl_all [(h_x, .inr (5, [.ref h_x_d, .int x_n, .int x_minus])), (h_x_d, .inl (cI, x_d_n, .inl w_10)), (h_a, .inr (5, [.ref h_a_d, .int a_n, .int a_minus])), (h_a_d, .inl (cI, a_d_n, .inl a_d)), (h_b, .inr (5, [.ref h_b_d, .int b_n, .int b_minus])), (h_b_d, .inl (cI, b_d_n, .inl b_d))] H → va_D A [(h_x, .inr (5, [.ref h_x_d, .int x_n, .int x_minus])), (h_x_d, .inl (cI, x_d_n, .inl w_10)), (h_a, .inr (5, [.ref h_a_d, .int a_n, .int a_minus])), (h_a_d, .inl (cI, a_d_n, .inl a_d)), (h_b, .inr (5, [.ref h_b_d, .int b_n, .int b_minus])), (h_b_d, .inl (cI, b_d_n, .inl b_d))] → va_S A s.heap H locs → ∀ ls : Array Slot, lv_has ls 10 [(0, .ref h_x), (1, .ref h_a), (4, .int 1), (5, .ref h_a)] → W p l e ({ frames := 1, cells := 0, slots := 0, locals := 22 } : Room) s m AR below meth c H locs 0 0 QQ (F0 m 315 ls [])) ?_ ?_
                · intro w_10 h H locs hP hD hS ls hl
                  refine lv_aload_n hx hb d_Nu_less_315 rfl (lv_at hl 0 rfl) ?_
                  refine lv_aload hx hb d_Nu_less_316 (lv_at hl 3 rfl) ?_
                  refine va_get (D := (dC, dI)) (ci := 5) (v := .int a_n) (C := "BasisWalkModel$Num") (T := T_Nu) (N := 3) hx hb hts iw1 hown hK hP 2 rfl rfl 1 (by decide) fl0 (fun _ h9 => h9) rfl d_Nu_less_318 ?_
                  refine va_put (D := (dC, dI)) (ci := 5) (v := .int a_n) (ty := .int) (C := "BasisWalkModel$Num") (T := T_Nu) (N := 3) hx hb hts iw1 ty_Nu tyok_Nu nm_Nu hown hK hP hD hS 0 rfl rfl 1 (by decide) fl0 (fun _ h9 => h9) rfl (by decide +kernel) rfl rfl (Nat.le_of_ble_eq_true rfl) d_Nu_less_321 (fun H locs hP hD hS => ?_)
                  have hP : va_P (dC, dI) cl_all [(h_x, .inr (5, [.ref h_x_d, .int a_n, .int x_minus])), (h_x_d, .inl (cI, x_d_n, .inl w_10)), (h_a, .inr (5, [.ref h_a_d, .int a_n, .int a_minus])), (h_a_d, .inl (cI, a_d_n, .inl a_d)), (h_b, .inr (5, [.ref h_b_d, .int b_n, .int b_minus])), (h_b_d, .inl (cI, b_d_n, .inl b_d))] H := hP
                  have hD : va_D A [(h_x, .inr (5, [.ref h_x_d, .int a_n, .int x_minus])), (h_x_d, .inl (cI, x_d_n, .inl w_10)), (h_a, .inr (5, [.ref h_a_d, .int a_n, .int a_minus])), (h_a_d, .inl (cI, a_d_n, .inl a_d)), (h_b, .inr (5, [.ref h_b_d, .int b_n, .int b_minus])), (h_b_d, .inl (cI, b_d_n, .inl b_d))] := hD
                  refine lv_aload_n hx hb d_Nu_less_324 rfl (lv_at hl 0 rfl) ?_
                  refine lv_iload hx hb d_Nu_less_325 (lv_at hl 2 rfl) ?_
                  refine lv_if_eq (tgt := 337) hx hb d_Nu_less_327 (by decide) (fun c_11 => ?_) (fun c_11 => ?_)
                  · exact absurd (ck_if_t h c_11) (by simp)
                  · replace h := ck_if_f h c_11
                    refine lv_aload_n hx hb d_Nu_less_330 rfl (lv_at hl 1 rfl) ?_
                    refine va_get (D := (dC, dI)) (ci := 5) (v := .int a_minus) (C := "BasisWalkModel$Num") (T := T_Nu) (N := 3) hx hb hts iw1 hown hK hP 2 rfl rfl 2 (by decide) fl2 (fun _ h9 => h9) rfl d_Nu_less_331 ?_
                    refine lv_goto (tgt := 338) hx hb d_Nu_less_334 (by decide) ?_
                    obtain ⟨g_12, h⟩ := ck_z_s h
                    refine va_put (D := (dC, dI)) (ci := 5) (v := .int a_minus) (ty := .boolean) (C := "BasisWalkModel$Num") (T := T_Nu) (N := 3) hx hb hts iw1 ty_Nu tyok_Nu nm_Nu hown hK hP hD hS 0 rfl rfl 2 (by decide) fl2 (fun _ h9 => h9) rfl (by decide +kernel) g_12.1 g_12.2 (Nat.le_of_ble_eq_true rfl) d_Nu_less_338 (fun H locs hP hD hS => ?_)
                    have hP : va_P (dC, dI) cl_all [(h_x, .inr (5, [.ref h_x_d, .int a_n, .int a_minus])), (h_x_d, .inl (cI, x_d_n, .inl w_10)), (h_a, .inr (5, [.ref h_a_d, .int a_n, .int a_minus])), (h_a_d, .inl (cI, a_d_n, .inl a_d)), (h_b, .inr (5, [.ref h_b_d, .int b_n, .int b_minus])), (h_b_d, .inl (cI, b_d_n, .inl b_d))] H := hP
                    have hD : va_D A [(h_x, .inr (5, [.ref h_x_d, .int a_n, .int a_minus])), (h_x_d, .inl (cI, x_d_n, .inl w_10)), (h_a, .inr (5, [.ref h_a_d, .int a_n, .int a_minus])), (h_a_d, .inl (cI, a_d_n, .inl a_d)), (h_b, .inr (5, [.ref h_b_d, .int b_n, .int b_minus])), (h_b_d, .inl (cI, b_d_n, .inl b_d))] := hD
                    refine lv_aload_n hx hb d_Nu_less_341 rfl (lv_at hl 0 rfl) ?_
                    obtain ⟨u_13, u_14, hc_15, h⟩ := ck_b2_s h
                    have hPc := hP.sub (ws' := [(h_x, .inr (5, [.ref h_x_d, .int a_n, .int a_minus])), (h_x_d, .inl (cI, x_d_n, .inl w_10))]) [0, 1] rfl
                    have hDc := hD.sub (ws' := [(h_x, .inr (5, [.ref h_x_d, .int a_n, .int a_minus])), (h_x_d, .inl (cI, x_d_n, .inl w_10))]) [0, 1] (by decide) rfl
                    have hFc := va_free (wc := [(h_x, .inr (5, [.ref h_x_d, .int a_n, .int a_minus])), (h_x_d, .inl (cI, x_d_n, .inl w_10))]) hD hS hA [0, 1] rfl
                    refine va_callv (va_runV (As := []) (rest := []) ⟨hx, hb, hml, hown, hts⟩ (c_N_trim l dC dI cI cJ cB cZ cT cN H.size h_x h_x_d a_n a_minus x_d_n w_10 _ hc_15) (cwV 0 hts (tb_V tw_526 tw_527 tw_528 tw_7 tw_529) rfl rfl rfl (by decide +kernel) ⟨Nat.le_of_ble_eq_true rfl, Nat.le_of_ble_eq_true rfl⟩) ⟨fun a U g mk q => by obtain ⟨q0, q1, qP, qK, qN, qD⟩ := q; exact ⟨q0, q1, qP, va_K.moved (u := U) (U := U.calling g mk a) (Vm.Alike.refl U.vm) qK, qN.same rfl, qD⟩, va_recv hK hPc (ci := 5) (q0 := 0) rfl rfl, fun U hU hW => ⟨rfl, by rw [hU], by rw [hU]; exact hPc, va_K.moved hW.alike hK, hN.warm hW, hDc.weaken (fun _ _ _ _ => trivial)⟩⟩ rfl rfl hl.1 rfl (lv_room (Nat.le_of_ble_eq_true rfl)) d_Nu_less_342 ⟨Nat.zero_le _, Nat.zero_le _⟩) hS (fun q _ h => hFc q h) hFc (fun u t H1 locs ht hvm hw hB hz1 hk1 hS => ?_)
                    replace hw := hw.symm
                    subst hw
                    obtain ⟨hP1, -, hD1⟩ := hB
                    rw [ht] at hP1
                    obtain ⟨hP, hD⟩ := va_join (wr := [(h_a, .inr (5, [.ref h_a_d, .int a_n, .int a_minus])), (h_a_d, .inl (cI, a_d_n, .inl a_d)), (h_b, .inr (5, [.ref h_b_d, .int b_n, .int b_minus])), (h_b_d, .inl (cI, b_d_n, .inl b_d))]) (w1 := [(h_x, .inr (5, [.ref h_x_d, .int u_13, .int u_14])), (h_x_d, .inl (cI, x_d_n, .inl w_10))]) hP hD [0, 1] [2, 3, 4, 5] rfl rfl (by decide) (by decide) hk1 hFc hP1 hD1
                    generalize H1 = H at hP hS ⊢
                    have hP : va_P (dC, dI) cl_all [(h_x, .inr (5, [.ref h_x_d, .int u_13, .int u_14])), (h_x_d, .inl (cI, x_d_n, .inl w_10)), (h_a, .inr (5, [.ref h_a_d, .int a_n, .int a_minus])), (h_a_d, .inl (cI, a_d_n, .inl a_d)), (h_b, .inr (5, [.ref h_b_d, .int b_n, .int b_minus])), (h_b_d, .inl (cI, b_d_n, .inl b_d))] H := hP.sub [4, 5, 0, 1, 2, 3] rfl
                    have hD : va_D A [(h_x, .inr (5, [.ref h_x_d, .int u_13, .int u_14])), (h_x_d, .inl (cI, x_d_n, .inl w_10)), (h_a, .inr (5, [.ref h_a_d, .int a_n, .int a_minus])), (h_a_d, .inl (cI, a_d_n, .inl a_d)), (h_b, .inr (5, [.ref h_b_d, .int b_n, .int b_minus])), (h_b_d, .inl (cI, b_d_n, .inl b_d))] := hD.sub [4, 5, 0, 1, 2, 3] (by decide) rfl
                    obtain rfl := Option.some.inj h
                    subst hQ
                    exact W.vret hx hb hr (fun t ht hW => ⟨⟨(u_13, u_14, w_10), rfl, rfl, by rw [ht]; exact hP, va_K.moved hW.alike hK, hD⟩, hS.F ht⟩) hS.2.2 d_Nu_less_345
                · intro k_315 J_315 h
                  refine lo3_W (r := r) (fun (v8_16 : Int32) (v7_17 : Int32) (w_18 : Nat → Int32) => ∀ (H : Heap) (locs : List Loc), va_P (dC, dI) cl_all [(h_x, .inr (5, [.ref h_x_d, .int x_n, .int x_minus])), (h_x_d, .inl (cI, x_d_n, .inl w_18)), (h_a, .inr (5, [.ref h_a_d, .int a_n, .int a_minus])), (h_a_d, .inl (cI, a_d_n, .inl a_d)), (h_b, .inr (5, [.ref h_b_d, .int b_n, .int b_minus])), (h_b_d, .inl (cI, b_d_n, .inl b_d))] H → va_D A [(h_x, .inr (5, [.ref h_x_d, .int x_n, .int x_minus])), (h_x_d, .inl (cI, x_d_n, .inl w_18)), (h_a, .inr (5, [.ref h_a_d, .int a_n, .int a_minus])), (h_a_d, .inl (cI, a_d_n, .inl a_d)), (h_b, .inr (5, [.ref h_b_d, .int b_n, .int b_minus])), (h_b_d, .inl (cI, b_d_n, .inl b_d))] → va_S A s.heap H locs → ∀ ls : Array Slot, lv_has ls 10 [(0, .ref h_x), (1, .ref h_a), (4, .int 1), (5, .ref h_a), (6, .ref h_b), (7, .int v7_17), (8, .int v8_16)] → W p l e ({ frames := 1, cells := 0, slots := 0, locals := 22 } : Room) s m AR below meth c H locs 0 0 QQ (F0 m 236 ls [])) ?_ _ _ _ _ h _ _ hP hD hS _ (lv_sub hl [6, 7, 4, 3, 2, 1, 0] rfl)
                  intro k_236 v8_16 v7_17 w_18 J_236 h H locs hP hD hS ls hl
                  refine lv_iload hx hb d_Nu_less_236 (lv_at hl 6 rfl) ?_
                  refine lv_aload hx hb d_Nu_less_238 (lv_at hl 3 rfl) ?_
                  refine va_get (D := (dC, dI)) (ci := 5) (v := .int a_n) (C := "BasisWalkModel$Num") (T := T_Nu) (N := 3) hx hb hts iw1 hown hK hP 2 rfl rfl 1 (by decide) fl0 (fun _ h9 => h9) rfl d_Nu_less_240 ?_
                  refine lv_icmp_ge (tgt := 315) hx hb d_Nu_less_243 (by decide) (fun c_19 => ?_) (fun c_19 => ?_)
                  · replace h := ck_if_t h c_19
                    exact J_315 _ h _ _ hP hD hS _ (lv_sub hl [0, 1, 2, 3] rfl)
                  · replace h := ck_if_f h c_19
                    refine lv_aload hx hb d_Nu_less_246 (lv_at hl 3 rfl) ?_
                    refine va_get (D := (dC, dI)) (ci := 5) (v := .ref h_a_d) (C := "BasisWalkModel$Num") (T := T_Nu) (N := 3) hx hb hts iw1 hown hK hP 2 rfl rfl 0 (by decide) fl3 (fun _ h9 => h9) rfl d_Nu_less_248 ?_
                    refine lv_iload hx hb d_Nu_less_251 (lv_at hl 6 rfl) ?_
                    obtain ⟨g_20, h⟩ := ck_in_s h
                    refine va_iald hx hb hK hP 3 0 rfl rfl g_20 d_Nu_less_253 ?_
                    refine lv_iload hx hb d_Nu_less_254 (lv_at hl 6 rfl) ?_
                    refine lv_aload hx hb d_Nu_less_256 (lv_at hl 4 rfl) ?_
                    refine va_get (D := (dC, dI)) (ci := 5) (v := .int b_n) (C := "BasisWalkModel$Num") (T := T_Nu) (N := 3) hx hb hts iw1 hown hK hP 4 rfl rfl 1 (by decide) fl0 (fun _ h9 => h9) rfl d_Nu_less_258 ?_
                    refine ck_jn_W h (fun k' => ∀ (s0_21 : Int32), k' s0_21 = some r → ∀ (H : Heap) (locs : List Loc), va_P (dC, dI) cl_all [(h_x, .inr (5, [.ref h_x_d, .int x_n, .int x_minus])), (h_x_d, .inl (cI, x_d_n, .inl w_18)), (h_a, .inr (5, [.ref h_a_d, .int a_n, .int a_minus])), (h_a_d, .inl (cI, a_d_n, .inl a_d)), (h_b, .inr (5, [.ref h_b_d, .int b_n, .int b_minus])), (h_b_d, .inl (cI, b_d_n, .inl b_d))] H → va_D A [(h_x, .inr (5, [.ref h_x_d, .int x_n, .int x_minus])), (h_x_d, .inl (cI, x_d_n, .inl w_18)), (h_a, .inr (5, [.ref h_a_d, .int a_n, .int a_minus])), (h_a_d, .inl (cI, a_d_n, .inl a_d)), (h_b, .inr (5, [.ref h_b_d, .int b_n, .int b_minus])), (h_b_d, .inl (cI, b_d_n, .inl b_d))] → va_S A s.heap H locs → ∀ ls : Array Slot, lv_has ls 10 [(0, .ref h_x), (1, .ref h_a), (4, .int 1), (5, .ref h_a), (6, .ref h_b), (7, .int v7_17), (8, .int v8_16)] → W p l e ({ frames := 1, cells := 0, slots := 0, locals := 22 } : Room) s m AR below meth c H locs 0 0 QQ (F0 m 276 ls [.int s0_21, .int (a_d v8_16.toNatClampNeg)])) ?_ ?_
                    · intro s0_21 h H locs hP hD hS ls hl
                      refine lv_isub hx hb d_Nu_less_276 ?_
                      refine lv_iload hx hb d_Nu_less_277 (lv_at hl 5 rfl) ?_
                      refine lv_isub hx hb d_Nu_less_279 ?_
                      refine lv_topi (fun x_22 ex_22 => ?_)
                      replace h := ck_nm_s h ex_22
                      refine lv_istore (lv' := [(9, .int x_22), (0, .ref h_x), (1, .ref h_a), (4, .int 1), (5, .ref h_a), (6, .ref h_b), (7, .int v7_17), (8, .int v8_16)]) hx hb d_Nu_less_280 hl (by decide) rfl (fun ls hl => ?_)
                      refine lv_iload hx hb d_Nu_less_282 (lv_at hl 0 rfl) ?_
                      refine ck_jn_W h (fun k' => ∀ (s0_23 : Int32), k' s0_23 = some r → ∀ (H : Heap) (locs : List Loc), va_P (dC, dI) cl_all [(h_x, .inr (5, [.ref h_x_d, .int x_n, .int x_minus])), (h_x_d, .inl (cI, x_d_n, .inl w_18)), (h_a, .inr (5, [.ref h_a_d, .int a_n, .int a_minus])), (h_a_d, .inl (cI, a_d_n, .inl a_d)), (h_b, .inr (5, [.ref h_b_d, .int b_n, .int b_minus])), (h_b_d, .inl (cI, b_d_n, .inl b_d))] H → va_D A [(h_x, .inr (5, [.ref h_x_d, .int x_n, .int x_minus])), (h_x_d, .inl (cI, x_d_n, .inl w_18)), (h_a, .inr (5, [.ref h_a_d, .int a_n, .int a_minus])), (h_a_d, .inl (cI, a_d_n, .inl a_d)), (h_b, .inr (5, [.ref h_b_d, .int b_n, .int b_minus])), (h_b_d, .inl (cI, b_d_n, .inl b_d))] → va_S A s.heap H locs → ∀ ls : Array Slot, lv_has ls 10 [(0, .ref h_x), (1, .ref h_a), (4, .int 1), (5, .ref h_a), (6, .ref h_b), (8, .int v8_16), (9, .int x_22)] → W p l e ({ frames := 1, cells := 0, slots := 0, locals := 22 } : Room) s m AR below meth c H locs 0 0 QQ (F0 m 292 ls [.int s0_23])) ?_ ?_
                      · intro s0_23 h H locs hP hD hS ls hl
                        refine lv_istore (lv' := [(7, .int s0_23), (0, .ref h_x), (1, .ref h_a), (4, .int 1), (5, .ref h_a), (6, .ref h_b), (8, .int v8_16), (9, .int x_22)]) hx hb d_Nu_less_292 hl (by decide) rfl (fun ls hl => ?_)
                        refine lv_aload_n hx hb d_Nu_less_294 rfl (lv_at hl 1 rfl) ?_
                        refine va_get (D := (dC, dI)) (ci := 5) (v := .ref h_x_d) (C := "BasisWalkModel$Num") (T := T_Nu) (N := 3) hx hb hts iw1 hown hK hP 0 rfl rfl 0 (by decide) fl3 (fun _ h9 => h9) rfl d_Nu_less_295 ?_
                        refine lv_iload hx hb d_Nu_less_298 (lv_at hl 6 rfl) ?_
                        refine lv_iload hx hb d_Nu_less_300 (lv_at hl 7 rfl) ?_
                        refine lv_ldc (v := 65536) hx hb hown kc4 d_Nu_less_302 ?_
                        refine lv_iload hx hb d_Nu_less_304 (lv_at hl 0 rfl) ?_
                        refine lv_imul hx hb d_Nu_less_306 ?_
                        refine lv_iadd hx hb d_Nu_less_307 ?_
                        obtain ⟨g_24, h⟩ := ck_in_s h
                        refine va_iast hx hb hK hP hD hS 1 0 rfl rfl g_24 d_Nu_less_308 (fun H locs hP hD hS => ?_)
                        have hP : va_P (dC, dI) cl_all [(h_x, .inr (5, [.ref h_x_d, .int x_n, .int x_minus])), (h_x_d, .inl (cI, x_d_n, .inl (upd w_18 v8_16.toNatClampNeg (x_22 + (65536 * s0_23))))), (h_a, .inr (5, [.ref h_a_d, .int a_n, .int a_minus])), (h_a_d, .inl (cI, a_d_n, .inl a_d)), (h_b, .inr (5, [.ref h_b_d, .int b_n, .int b_minus])), (h_b_d, .inl (cI, b_d_n, .inl b_d))] H := hP
                        have hD : va_D A [(h_x, .inr (5, [.ref h_x_d, .int x_n, .int x_minus])), (h_x_d, .inl (cI, x_d_n, .inl (upd w_18 v8_16.toNatClampNeg (x_22 + (65536 * s0_23))))), (h_a, .inr (5, [.ref h_a_d, .int a_n, .int a_minus])), (h_a_d, .inl (cI, a_d_n, .inl a_d)), (h_b, .inr (5, [.ref h_b_d, .int b_n, .int b_minus])), (h_b_d, .inl (cI, b_d_n, .inl b_d))] := hD
                        obtain ⟨x_25, ex_25⟩ : ∃ y : Int32, y = v8_16 + 1 := ⟨_, rfl⟩
                        replace h := ck_nm_s h ex_25
                        refine lv_iinc (v := x_25) (lv' := [(8, .int x_25), (7, .int s0_23), (0, .ref h_x), (1, .ref h_a), (4, .int 1), (5, .ref h_a), (6, .ref h_b), (9, .int x_22)]) hx hb d_Nu_less_309 hl (k := 6) rfl (by rw [ex_25]; rfl) (by decide) rfl (fun ls hl => ?_)
                        refine lv_goto (tgt := 236) hx hb d_Nu_less_312 (by decide) ?_
                        exact J_236 _ _ _ h _ _ hP hD hS _ (lv_sub hl [2, 3, 4, 5, 6, 1, 0] rfl)
                      · intro k_292 J_292 h
                        refine lv_if_ge (tgt := 291) hx hb d_Nu_less_284 (by decide) (fun c_26 => ?_) (fun c_26 => ?_)
                        · replace h := ck_if_t h c_26
                          refine lv_iconst (v := 0) hx hb d_Nu_less_291 (by decide) ?_
                          exact J_292 _ h _ _ hP hD hS _ (lv_sub hl [1, 2, 3, 4, 5, 7, 0] rfl)
                        · replace h := ck_if_f h c_26
                          refine lv_iconst (v := 1) hx hb d_Nu_less_287 (by decide) ?_
                          refine lv_goto (tgt := 292) hx hb d_Nu_less_288 (by decide) ?_
                          exact J_292 _ h _ _ hP hD hS _ (lv_sub hl [1, 2, 3, 4, 5, 7, 0] rfl)
                    · intro k_276 J_276 h
                      refine lv_icmp_ge (tgt := 275) hx hb d_Nu_less_261 (by decide) (fun c_27 => ?_) (fun c_27 => ?_)
                      · replace h := ck_if_t h c_27
                        refine lv_iconst (v := 0) hx hb d_Nu_less_275 (by decide) ?_
                        exact J_276 _ h _ _ hP hD hS _ (lv_sub hl [0, 1, 2, 3, 4, 5, 6] rfl)
                      · replace h := ck_if_f h c_27
                        refine lv_aload hx hb d_Nu_less_264 (lv_at hl 4 rfl) ?_
                        refine va_get (D := (dC, dI)) (ci := 5) (v := .ref h_b_d) (C := "BasisWalkModel$Num") (T := T_Nu) (N := 3) hx hb hts iw1 hown hK hP 4 rfl rfl 0 (by decide) fl3 (fun _ h9 => h9) rfl d_Nu_less_266 ?_
                        refine lv_iload hx hb d_Nu_less_269 (lv_at hl 6 rfl) ?_
                        obtain ⟨g_28, h⟩ := ck_in_s h
                        refine va_iald hx hb hK hP 5 0 rfl rfl g_28 d_Nu_less_271 ?_
                        refine lv_goto (tgt := 276) hx hb d_Nu_less_272 (by decide) ?_
                        exact J_276 _ h _ _ hP hD hS _ (lv_sub hl [0, 1, 2, 3, 4, 5, 6] rfl)
        · exact absurd (ck_if_t h c_4) (by simp)
  · intro k_19 J_19 h
    refine ck_jn_W h (fun k' => ∀ u : Unit, k' u = some r → ∀ (H : Heap) (locs : List Loc), va_P (dC, dI) cl_all [(h_x, .inr (5, [.ref h_x_d, .int x_n, .int x_minus])), (h_x_d, .inl (cI, x_d_n, .inl x_d)), (h_a, .inr (5, [.ref h_a_d, .int a_n, .int a_minus])), (h_a_d, .inl (cI, a_d_n, .inl a_d)), (h_b, .inr (5, [.ref h_b_d, .int b_n, .int b_minus])), (h_b_d, .inl (cI, b_d_n, .inl b_d))] H → va_D A [(h_x, .inr (5, [.ref h_x_d, .int x_n, .int x_minus])), (h_x_d, .inl (cI, x_d_n, .inl x_d)), (h_a, .inr (5, [.ref h_a_d, .int a_n, .int a_minus])), (h_a_d, .inl (cI, a_d_n, .inl a_d)), (h_b, .inr (5, [.ref h_b_d, .int b_n, .int b_minus])), (h_b_d, .inl (cI, b_d_n, .inl b_d))] → va_S A s.heap H locs → ∀ ls : Array Slot, lv_has ls 10 [(0, .ref h_x), (1, .ref h_a), (2, .ref h_b)] → W p l e ({ frames := 1, cells := 0, slots := 0, locals := 22 } : Room) s m AR below meth c H locs 0 0 QQ (F0 m 18 ls [])) ?_ ?_
    · intro _ h H locs hP hD hS ls hl
      refine lv_iconst (v := 0) hx hb d_Nu_less_18 (by decide) ?_
      exact J_19 _ h _ _ hP hD hS _ (lv_sub hl [0, 1, 2] rfl)
    · intro k_18 J_18 h
      refine lv_if_le (tgt := 18) hx hb d_Nu_less_4 (by decide) (fun c_29 => ?_) (fun c_29 => ?_)
      · replace h := ck_if_t h c_29
        exact J_18 _ h _ _ hP hD hS _ (lv_sub hl [0, 1, 2] rfl)
      · replace h := ck_if_f h c_29
        refine lv_aload_n hx hb d_Nu_less_7 rfl (lv_at hl 2 rfl) ?_
        refine va_get (D := (dC, dI)) (ci := 5) (v := .int b_minus) (C := "BasisWalkModel$Num") (T := T_Nu) (N := 3) hx hb hts iw1 hown hK hP 4 rfl rfl 2 (by decide) fl2 (fun _ h9 => h9) rfl d_Nu_less_8 ?_
        refine lv_if_ne (tgt := 18) hx hb d_Nu_less_11 (by decide) (fun c_30 => ?_) (fun c_30 => ?_)
        · replace h := ck_if_f h c_30
          exact J_18 _ h _ _ hP hD hS _ (lv_sub hl [0, 1, 2] rfl)
        · replace h := ck_if_t h c_30
          refine lv_iconst (v := 1) hx hb d_Nu_less_14 (by decide) ?_
          refine lv_goto (tgt := 19) hx hb d_Nu_less_15 (by decide) ?_
          exact J_19 _ h _ _ hP hD hS _ (lv_sub hl [0, 1, 2] rfl)
def f_N_lessC (x_d_n : Nat) (x_d : Nat → Int32) (a_n : Int32) (a_minus : Int32) (a_d_n : Nat) (a_d : Nat → Int32) (b_n : Int32) (b_minus : Int32) (b_d_n : Nat) (b_d : Nat → Int32) : Option (Int32 × Int32 × (Nat → Int32)) :=
  ck_jn (fun (s0_1 : Int32) => ck_if (a_n = 0) (none) (ck_if (b_n = 0) (none) (ck_if (a_minus = s0_1) (none) (ck_b1 (f_N_compareSize a_n a_d_n a_d b_n b_d_n b_d) <| fun r_5 => ck_if (r_5 < 0) (ck_if ((0 : Int32) = 0) (ck_if ((0 : Int32) = 0) (ck_jn (fun (w_10 : Nat → Int32) => ck_if ((0 : Int32) = 0) (ck_z s0_1 <| ck_b2 (f_N_trim b_n s0_1 x_d_n w_10) <| fun u_13 u_14 => some (u_13, u_14, w_10)) (none)) <| fun k_315 => lo3 (fun k_236 (v8_16 : Int32) (v7_17 : Int32) (w_18 : Nat → Int32) => ck_if (b_n ≤ v8_16) (k_315 w_18) (ck_in v8_16 b_d_n <| ck_jn (fun (s0_21 : Int32) => ck_nm (((b_d v8_16.toNatClampNeg) - s0_21) - v7_17) <| fun x_22 => ck_jn (fun (s0_23 : Int32) => ck_in v8_16 x_d_n <| ck_nm (v8_16 + 1) <| fun x_25 => k_236 x_25 s0_23 (upd w_18 v8_16.toNatClampNeg (x_22 + (65536 * s0_23)))) <| fun k_292 => ck_if (0 ≤ x_22) (k_292 0) (k_292 1)) <| fun k_276 => ck_if (a_n ≤ v8_16) (k_276 0) (ck_in v8_16 a_d_n <| k_276 (a_d v8_16.toNatClampNeg)))) ck_F 0 0 x_d) (none)) (none)) (none))))) <| fun k_19 => ck_jn (fun (_ : Unit) => k_19 0) <| fun k_18 => ck_if (b_n ≤ 0) (k_18 ()) (ck_if (b_minus = 0) (k_19 1) (k_18 ()))
set_option maxHeartbeats 4000000 in
set_option maxRecDepth 100000 in
theorem c_N_lessC (l : Launch) (dC : Nat → ClassId) (dI : Nat → Nat → Nat) (cI cJ cB cZ cT cN : ClassId) (sz : Nat) (h_x : Nat) (h_a : Nat) (h_b : Nat) (h_x_d : Nat) (h_a_d : Nat) (h_b_d : Nat) (x_n : Int32) (x_minus : Int32) (x_d_n : Nat) (x_d : Nat → Int32) (a_n : Int32) (a_minus : Int32) (a_d_n : Nat) (a_d : Nat → Int32) (b_n : Int32) (b_minus : Int32) (b_d_n : Nat) (b_d : Nat → Int32) (r : Int32 × Int32 × (Nat → Int32)) (h : f_N_lessC x_d_n x_d a_n a_minus a_d_n a_d b_n b_minus b_d_n b_d = some r) : Met l y_Nu_less w_Nu_less ({ frames := 1, cells := 0, slots := 0, locals := 22 } : Room) (va_Pc [.ref h_x, .ref h_a, .ref h_b] (fun U => U.heap.size = sz ∧ va_P (dC, dI) cl_all [(h_x, .inr (5, [.ref h_x_d, .int x_n, .int x_minus])), (h_x_d, .inl (cI, x_d_n, .inl x_d)), (h_a, .inr (5, [.ref h_a_d, .int a_n, .int a_minus])), (h_a_d, .inl (cI, a_d_n, .inl a_d)), (h_b, .inr (5, [.ref h_b_d, .int b_n, .int b_minus])), (h_b_d, .inl (cI, b_d_n, .inl b_d))] U.heap ∧ va_K (dC, dI) cl_all [(cI, .int), (cJ, .long), (cB, .byte), (cZ, .boolean), (cT, .object "BasisWalk$Table"), (cN, .object "BasisWalkModel$Num")] U ∧ NW U ∧ va_D (fun _ => True) [(h_x, .inr (5, [.ref h_x_d, .int x_n, .int x_minus])), (h_x_d, .inl (cI, x_d_n, .inl x_d)), (h_a, .inr (5, [.ref h_a_d, .int a_n, .int a_minus])), (h_a_d, .inl (cI, a_d_n, .inl a_d)), (h_b, .inr (5, [.ref h_b_d, .int b_n, .int b_minus])), (h_b_d, .inl (cI, b_d_n, .inl b_d))])) (va_Qv (fun u : Int32 × Int32 × (Nat → Int32) => u = r) (fun (u : Int32 × Int32 × (Nat → Int32)) (t : State) => va_P (dC, dI) cl_all [(h_x, .inr (5, [.ref h_x_d, .int u.1, .int u.2.1])), (h_x_d, .inl (cI, x_d_n, .inl u.2.2)), (h_a, .inr (5, [.ref h_a_d, .int a_n, .int a_minus])), (h_a_d, .inl (cI, a_d_n, .inl a_d)), (h_b, .inr (5, [.ref h_b_d, .int b_n, .int b_minus])), (h_b_d, .inl (cI, b_d_n, .inl b_d))] t.heap ∧ va_K (dC, dI) cl_all [(cI, .int), (cJ, .long), (cB, .byte), (cZ, .boolean), (cT, .object "BasisWalk$Table"), (cN, .object "BasisWalkModel$Num")] t ∧ va_D (va_A [(h_x, .inr (5, [.ref h_x_d, .int x_n, .int x_minus])), (h_x_d, .inl (cI, x_d_n, .inl x_d)), (h_a, .inr (5, [.ref h_a_d, .int a_n, .int a_minus])), (h_a_d, .inl (cI, a_d_n, .inl a_d)), (h_b, .inr (5, [.ref h_b_d, .int b_n, .int b_minus])), (h_b_d, .inl (cI, b_d_n, .inl b_d))] sz) [(h_x, .inr (5, [.ref h_x_d, .int u.1, .int u.2.1])), (h_x_d, .inl (cI, x_d_n, .inl u.2.2)), (h_a, .inr (5, [.ref h_a_d, .int a_n, .int a_minus])), (h_a_d, .inl (cI, a_d_n, .inl a_d)), (h_b, .inr (5, [.ref h_b_d, .int b_n, .int b_minus])), (h_b_d, .inl (cI, b_d_n, .inl b_d))]) (va_A [(h_x, .inr (5, [.ref h_x_d, .int x_n, .int x_minus])), (h_x_d, .inl (cI, x_d_n, .inl x_d)), (h_a, .inr (5, [.ref h_a_d, .int a_n, .int a_minus])), (h_a_d, .inl (cI, a_d_n, .inl a_d)), (h_b, .inr (5, [.ref h_b_d, .int b_n, .int b_minus])), (h_b_d, .inl (cI, b_d_n, .inl b_d))] sz)) 0 0 (va_A [(h_x, .inr (5, [.ref h_x_d, .int x_n, .int x_minus])), (h_x_d, .inl (cI, x_d_n, .inl x_d)), (h_a, .inr (5, [.ref h_a_d, .int a_n, .int a_minus])), (h_a_d, .inl (cI, a_d_n, .inl a_d)), (h_b, .inr (5, [.ref h_b_d, .int b_n, .int b_minus])), (h_b_d, .inl (cI, b_d_n, .inl b_d))] sz) := by
  refine Met.ofW (cc := prog_8_method_10_code) (maxL := 10) (ret := (Option.none : Option Jvm.ClassFile.FieldType)) (by decide) rfl ?_
  intro p e s m args below meth c s₁ B hml hv
  obtain ⟨hAR, hsz, hP, hK, hN, hD0⟩ := hv
  have hx := B.exec
  have hb := B.bytes
  have hr := B.returns
  have hts := atoms_spec (ws := w_Nu_less) B.pre
  have hown : s.vm.findClass "BasisWalkModel$Num" = some m.cls := findClass_of_methodNamed B.named
  have hlocks := B.notSynchronized
  clear B
  subst hsz
  have hD := hD0.self (sz := s.heap.size)
  generalize hAe : va_A [(h_x, .inr (5, [.ref h_x_d, .int x_n, .int x_minus])), (h_x_d, .inl (cI, x_d_n, .inl x_d)), (h_a, .inr (5, [.ref h_a_d, .int a_n, .int a_minus])), (h_a_d, .inl (cI, a_d_n, .inl a_d)), (h_b, .inr (5, [.ref h_b_d, .int b_n, .int b_minus])), (h_b_d, .inl (cI, b_d_n, .inl b_d))] s.heap.size = A at hD ⊢
  have hA : ∀ q : Nat, s.heap.size ≤ q → A q := fun q h => by rw [← hAe]; exact Or.inr h
  clear hAe hD0
  have hS : va_S A s.heap s.heap [] := va_S.rf
  have hl := lv_entry ([.ref h_x, .ref h_a, .ref h_b]) (n := 10) (Nat.le_of_ble_eq_true rfl)
  subst hAR
  rw [lg_entry_eq]
  generalize (lg_sl ([.ref h_x, .ref h_a, .ref h_b]) ++ List.replicate (10 - (lg_sl ([.ref h_x, .ref h_a, .ref h_b])).length) Slot.unset).toArray = ls at hl ⊢
  have hl : lv_has ls 10 [(0, .ref h_x), (1, .ref h_a), (2, .ref h_b)] := hl
  change W p l e ({ frames := 1, cells := 0, slots := 0, locals := 22 } : Room) s m _ below meth c s.heap [] 0 0 _ _
  generalize hARe : ([.ref h_x, .ref h_a, .ref h_b] : List Value).toArray = AR at hts ⊢
  clear hARe
  generalize hQ : MQ below _ AR s 0 0 A = QQ
  have fl0 := hts _ (List.mem_cons_of_mem _ tw_340)
  have iw1 := (fun w hw => List.mem_cons_of_mem _ (in_Nu w hw) : ∀ w ∈ u_ws "BasisWalkModel$Num" T_Nu 3, w ∈ w_Nu_less)
  have fl2 := hts _ (List.mem_cons_of_mem _ tw_342)
  have fl3 := hts _ (List.mem_cons_of_mem _ tw_338)
  have kc4 := hts _ (List.mem_cons_of_mem _ tw_534)
  obtain ⟨H, hHe⟩ : ∃ H : Heap, H = s.heap := ⟨_, rfl⟩
  rw [← hHe] at hP ⊢
  replace hS : va_S A s.heap H [] := by rw [hHe]; exact va_S.rf
  clear hHe
  unfold f_N_lessC at h
  refine lv_aload_n hx hb d_Nu_less_0 rfl (lv_at hl 2 rfl) ?_
  refine va_get (D := (dC, dI)) (ci := 5) (v := .int b_n) (C := "BasisWalkModel$Num") (T := T_Nu) (N := 3) hx hb hts iw1 hown hK hP 4 rfl rfl 1 (by decide) fl0 (fun _ h9 => h9) rfl d_Nu_less_1 ?_
  refine ck_jn_W h (fun k' => ∀ (s0_1 : Int32), k' s0_1 = some r → ∀ (H : Heap) (locs : List Loc), va_P (dC, dI) cl_all [(h_x, .inr (5, [.ref h_x_d, .int x_n, .int x_minus])), (h_x_d, .inl (cI, x_d_n, .inl x_d)), (h_a, .inr (5, [.ref h_a_d, .int a_n, .int a_minus])), (h_a_d, .inl (cI, a_d_n, .inl a_d)), (h_b, .inr (5, [.ref h_b_d, .int b_n, .int b_minus])), (h_b_d, .inl (cI, b_d_n, .inl b_d))] H → va_D A [(h_x, .inr (5, [.ref h_x_d, .int x_n, .int x_minus])), (h_x_d, .inl (cI, x_d_n, .inl x_d)), (h_a, .inr (5, [.ref h_a_d, .int a_n, .int a_minus])), (h_a_d, .inl (cI, a_d_n, .inl a_d)), (h_b, .inr (5, [.ref h_b_d, .int b_n, .int b_minus])), (h_b_d, .inl (cI, b_d_n, .inl b_d))] → va_S A s.heap H locs → ∀ ls : Array Slot, lv_has ls 10 [(0, .ref h_x), (1, .ref h_a), (2, .ref h_b)] → W p l e ({ frames := 1, cells := 0, slots := 0, locals := 22 } : Room) s m AR below meth c H locs 0 0 QQ (F0 m 19 ls [.int s0_1])) ?_ ?_
  · intro s0_1 h H locs hP hD hS ls hl
    refine lv_istore_n (lv' := [(3, .int s0_1), (0, .ref h_x), (1, .ref h_a), (2, .ref h_b)]) hx hb d_Nu_less_19 rfl hl (by decide) rfl (fun ls hl => ?_)
    refine lv_aload_n hx hb d_Nu_less_20 rfl (lv_at hl 2 rfl) ?_
    refine va_get (D := (dC, dI)) (ci := 5) (v := .int a_n) (C := "BasisWalkModel$Num") (T := T_Nu) (N := 3) hx hb hts iw1 hown hK hP 2 rfl rfl 1 (by decide) fl0 (fun _ h9 => h9) rfl d_Nu_less_21 ?_
    refine lv_if_eq (tgt := 42) hx hb d_Nu_less_24 (by decide) (fun c_2 => ?_) (fun c_2 => ?_)
    · exact absurd (ck_if_t h c_2) (by simp)
    · replace h := ck_if_f h c_2
      refine lv_aload_n hx hb d_Nu_less_27 rfl (lv_at hl 3 rfl) ?_
      refine va_get (D := (dC, dI)) (ci := 5) (v := .int b_n) (C := "BasisWalkModel$Num") (T := T_Nu) (N := 3) hx hb hts iw1 hown hK hP 4 rfl rfl 1 (by decide) fl0 (fun _ h9 => h9) rfl d_Nu_less_28 ?_
      refine lv_if_eq (tgt := 42) hx hb d_Nu_less_31 (by decide) (fun c_3 => ?_) (fun c_3 => ?_)
      · exact absurd (ck_if_t h c_3) (by simp)
      · replace h := ck_if_f h c_3
        refine lv_aload_n hx hb d_Nu_less_34 rfl (lv_at hl 2 rfl) ?_
        refine va_get (D := (dC, dI)) (ci := 5) (v := .int a_minus) (C := "BasisWalkModel$Num") (T := T_Nu) (N := 3) hx hb hts iw1 hown hK hP 2 rfl rfl 2 (by decide) fl2 (fun _ h9 => h9) rfl d_Nu_less_35 ?_
        refine lv_iload_n hx hb d_Nu_less_38 rfl (lv_at hl 0 rfl) ?_
        refine lv_icmp_ne (tgt := 191) hx hb d_Nu_less_39 (by decide) (fun c_4 => ?_) (fun c_4 => ?_)
        · replace h := ck_if_f h c_4
          refine lv_aload_n hx hb d_Nu_less_191 rfl (lv_at hl 2 rfl) ?_
          refine lv_aload_n hx hb d_Nu_less_192 rfl (lv_at hl 3 rfl) ?_
          obtain ⟨r_5, hc_6, h⟩ := ck_b1_s h
          have hPc := hP.sub (ws' := [(h_a, .inr (5, [.ref h_a_d, .int a_n, .int a_minus])), (h_a_d, .inl (cI, a_d_n, .inl a_d)), (h_b, .inr (5, [.ref h_b_d, .int b_n, .int b_minus])), (h_b_d, .inl (cI, b_d_n, .inl b_d))]) [2, 3, 4, 5] rfl
          have hDc := hD.sub (ws' := [(h_a, .inr (5, [.ref h_a_d, .int a_n, .int a_minus])), (h_a_d, .inl (cI, a_d_n, .inl a_d)), (h_b, .inr (5, [.ref h_b_d, .int b_n, .int b_minus])), (h_b_d, .inl (cI, b_d_n, .inl b_d))]) [2, 3, 4, 5] (by decide) rfl
          have hFc := va_free (wc := [(h_a, .inr (5, [.ref h_a_d, .int a_n, .int a_minus])), (h_a_d, .inl (cI, a_d_n, .inl a_d)), (h_b, .inr (5, [.ref h_b_d, .int b_n, .int b_minus])), (h_b_d, .inl (cI, b_d_n, .inl b_d))]) hD hS hA [2, 3, 4, 5] rfl
          refine va_calli (va_runV (As := [.ref h_b]) (rest := []) ⟨hx, hb, hml, hown, hts⟩ (c_N_compareSize l dC dI cI cJ cB cZ cT cN H.size h_a h_b h_a_d h_b_d a_n a_minus a_d_n a_d b_n b_minus b_d_n b_d _ hc_6) (cwV 1 hts (tb_V tw_535 tw_536 tw_537 tw_7 tw_538) rfl rfl rfl (by decide +kernel) ⟨Nat.le_of_ble_eq_true rfl, Nat.le_of_ble_eq_true rfl⟩) ⟨fun a U g mk q => by obtain ⟨q0, q1, qP, qK, qN, qD⟩ := q; exact ⟨q0, q1, qP, va_K.moved (u := U) (U := U.calling g mk a) (Vm.Alike.refl U.vm) qK, qN.same rfl, qD⟩, va_recv hK hPc (ci := 5) (q0 := 0) rfl rfl, fun U hU hW => ⟨rfl, by rw [hU], by rw [hU]; exact hPc, va_K.moved hW.alike hK, hN.warm hW, hDc.weaken (fun _ _ _ _ => trivial)⟩⟩ rfl rfl hl.1 rfl (lv_room (Nat.le_of_ble_eq_true rfl)) d_Nu_less_193 ⟨Nat.zero_le _, Nat.zero_le _⟩) hS (fun q _ h => hFc q h) hFc (fun rr u t H1 locs ht hvm hw hB hz1 hk1 hS => ?_)
          replace hw := hw.symm
          subst hw
          obtain ⟨hP1, -, hD1⟩ := hB
          rw [ht] at hP1
          obtain ⟨hP, hD⟩ := va_join (wr := [(h_x, .inr (5, [.ref h_x_d, .int x_n, .int x_minus])), (h_x_d, .inl (cI, x_d_n, .inl x_d))]) (w1 := [(h_a, .inr (5, [.ref h_a_d, .int a_n, .int a_minus])), (h_a_d, .inl (cI, a_d_n, .inl a_d)), (h_b, .inr (5, [.ref h_b_d, .int b_n, .int b_minus])), (h_b_d, .inl (cI, b_d_n, .inl b_d))]) hP hD [2, 3, 4, 5] [0, 1] rfl rfl (by decide) (by decide) hk1 hFc hP1 hD1
          generalize H1 = H at hP hS ⊢
          have hP : va_P (dC, dI) cl_all [(h_x, .inr (5, [.ref h_x_d, .int x_n, .int x_minus])), (h_x_d, .inl (cI, x_d_n, .inl x_d)), (h_a, .inr (5, [.ref h_a_d, .int a_n, .int a_minus])), (h_a_d, .inl (cI, a_d_n, .inl a_d)), (h_b, .inr (5, [.ref h_b_d, .int b_n, .int b_minus])), (h_b_d, .inl (cI, b_d_n, .inl b_d))] H := hP.sub [0, 1, 2, 3, 4, 5] rfl
          have hD : va_D A [(h_x, .inr (5, [.ref h_x_d, .int x_n, .int x_minus])), (h_x_d, .inl (cI, x_d_n, .inl x_d)), (h_a, .inr (5, [.ref h_a_d, .int a_n, .int a_minus])), (h_a_d, .inl (cI, a_d_n, .inl a_d)), (h_b, .inr (5, [.ref h_b_d, .int b_n, .int b_minus])), (h_b_d, .inl (cI, b_d_n, .inl b_d))] := hD.sub [0, 1, 2, 3, 4, 5] (by decide) rfl
          refine lv_if_lt (tgt := 203) hx hb d_Nu_less_196 (by decide) (fun c_7 => ?_) (fun c_7 => ?_)
          · replace h := ck_if_t h c_7
            refine lv_iconst (v := 0) hx hb d_Nu_less_203 (by decide) ?_
            refine lv_istore (lv' := [(4, .int 0), (3, .int s0_1), (0, .ref h_x), (1, .ref h_a), (2, .ref h_b)]) hx hb d_Nu_less_204 hl (by decide) rfl (fun ls hl => ?_)
            refine lv_iload hx hb d_Nu_less_206 (lv_at hl 0 rfl) ?_
            refine lv_if_eq (tgt := 215) hx hb d_Nu_less_208 (by decide) (fun c_8 => ?_) (fun c_8 => ?_)
            · replace h := ck_if_t h c_8
              refine lv_aload_n hx hb d_Nu_less_215 rfl (lv_at hl 4 rfl) ?_
              refine lv_astore (lv' := [(5, .ref h_b), (4, .int 0), (3, .int s0_1), (0, .ref h_x), (1, .ref h_a), (2, .ref h_b)]) hx hb d_Nu_less_216 hl (by decide) rfl (fun ls hl => ?_)
              refine lv_iload hx hb d_Nu_less_218 (lv_at hl 1 rfl) ?_
              refine lv_if_eq (tgt := 227) hx hb d_Nu_less_220 (by decide) (fun c_9 => ?_) (fun c_9 => ?_)
              · replace h := ck_if_t h c_9
                refine lv_aload_n hx hb d_Nu_less_227 rfl (lv_at hl 4 rfl) ?_
                refine lv_astore (lv' := [(6, .ref h_a), (5, .ref h_b), (4, .int 0), (3, .int s0_1), (0, .ref h_x), (1, .ref h_a), (2, .ref h_b)]) hx hb d_Nu_less_228 hl (by decide) rfl (fun ls hl => ?_)
                refine lv_iconst (v := 0) hx hb d_Nu_less_230 (by decide) ?_
                refine lv_istore (lv' := [(7, .int 0), (6, .ref h_a), (5, .ref h_b), (4, .int 0), (3, .int s0_1), (0, .ref h_x), (1, .ref h_a), (2, .ref h_b)]) hx hb d_Nu_less_231 hl (by decide) rfl (fun ls hl => ?_)
                refine lv_iconst (v := 0) hx hb d_Nu_less_233 (by decide) ?_
                refine lv_istore (lv' := [(8, .int 0), (7, .int 0), (6, .ref h_a), (5, .ref h_b), (4, .int 0), (3, .int s0_1), (0, .ref h_x), (1, .ref h_a), (2, .ref h_b)]) hx hb d_Nu_less_234 hl (by decide) rfl (fun ls hl => ?_)
                refine ck_jn_W h (fun k' => ∀ (w_10 : Nat → Int32), k' w_10 = some r → ∀ (H : Heap) (locs : List Loc), va_P (dC, dI) cl_all [(h_x, .inr (5, [.ref h_x_d, .int x_n, .int x_minus])), (h_x_d, .inl (cI, x_d_n, .inl w_10)), (h_a, .inr (5, [.ref h_a_d, .int a_n, .int a_minus])), (h_a_d, .inl (cI, a_d_n, .inl a_d)), (h_b, .inr (5, [.ref h_b_d, .int b_n, .int b_minus])), (h_b_d, .inl (cI, b_d_n, .inl b_d))] H → va_D A [(h_x, .inr (5, [.ref h_x_d, .int x_n, .int x_minus])), (h_x_d, .inl (cI, x_d_n, .inl w_10)), (h_a, .inr (5, [.ref h_a_d, .int a_n, .int a_minus])), (h_a_d, .inl (cI, a_d_n, .inl a_d)), (h_b, .inr (5, [.ref h_b_d, .int b_n, .int b_minus])), (h_b_d, .inl (cI, b_d_n, .inl b_d))] → va_S A s.heap H locs → ∀ ls : Array Slot, lv_has ls 10 [(0, .ref h_x), (3, .int s0_1), (4, .int 0), (5, .ref h_b)] → W p l e ({ frames := 1, cells := 0, slots := 0, locals := 22 } : Room) s m AR below meth c H locs 0 0 QQ (F0 m 315 ls [])) ?_ ?_
                · intro w_10 h H locs hP hD hS ls hl
                  refine lv_aload_n hx hb d_Nu_less_315 rfl (lv_at hl 0 rfl) ?_
                  refine lv_aload hx hb d_Nu_less_316 (lv_at hl 3 rfl) ?_
                  refine va_get (D := (dC, dI)) (ci := 5) (v := .int b_n) (C := "BasisWalkModel$Num") (T := T_Nu) (N := 3) hx hb hts iw1 hown hK hP 4 rfl rfl 1 (by decide) fl0 (fun _ h9 => h9) rfl d_Nu_less_318 ?_
                  refine va_put (D := (dC, dI)) (ci := 5) (v := .int b_n) (ty := .int) (C := "BasisWalkModel$Num") (T := T_Nu) (N := 3) hx hb hts iw1 ty_Nu tyok_Nu nm_Nu hown hK hP hD hS 0 rfl rfl 1 (by decide) fl0 (fun _ h9 => h9) rfl (by decide +kernel) rfl rfl (Nat.le_of_ble_eq_true rfl) d_Nu_less_321 (fun H locs hP hD hS => ?_)
                  have hP : va_P (dC, dI) cl_all [(h_x, .inr (5, [.ref h_x_d, .int b_n, .int x_minus])), (h_x_d, .inl (cI, x_d_n, .inl w_10)), (h_a, .inr (5, [.ref h_a_d, .int a_n, .int a_minus])), (h_a_d, .inl (cI, a_d_n, .inl a_d)), (h_b, .inr (5, [.ref h_b_d, .int b_n, .int b_minus])), (h_b_d, .inl (cI, b_d_n, .inl b_d))] H := hP
                  have hD : va_D A [(h_x, .inr (5, [.ref h_x_d, .int b_n, .int x_minus])), (h_x_d, .inl (cI, x_d_n, .inl w_10)), (h_a, .inr (5, [.ref h_a_d, .int a_n, .int a_minus])), (h_a_d, .inl (cI, a_d_n, .inl a_d)), (h_b, .inr (5, [.ref h_b_d, .int b_n, .int b_minus])), (h_b_d, .inl (cI, b_d_n, .inl b_d))] := hD
                  refine lv_aload_n hx hb d_Nu_less_324 rfl (lv_at hl 0 rfl) ?_
                  refine lv_iload hx hb d_Nu_less_325 (lv_at hl 2 rfl) ?_
                  refine lv_if_eq (tgt := 337) hx hb d_Nu_less_327 (by decide) (fun c_11 => ?_) (fun c_11 => ?_)
                  · replace h := ck_if_t h c_11
                    refine lv_iload_n hx hb d_Nu_less_337 rfl (lv_at hl 1 rfl) ?_
                    obtain ⟨g_12, h⟩ := ck_z_s h
                    refine va_put (D := (dC, dI)) (ci := 5) (v := .int s0_1) (ty := .boolean) (C := "BasisWalkModel$Num") (T := T_Nu) (N := 3) hx hb hts iw1 ty_Nu tyok_Nu nm_Nu hown hK hP hD hS 0 rfl rfl 2 (by decide) fl2 (fun _ h9 => h9) rfl (by decide +kernel) g_12.1 g_12.2 (Nat.le_of_ble_eq_true rfl) d_Nu_less_338 (fun H locs hP hD hS => ?_)
                    have hP : va_P (dC, dI) cl_all [(h_x, .inr (5, [.ref h_x_d, .int b_n, .int s0_1])), (h_x_d, .inl (cI, x_d_n, .inl w_10)), (h_a, .inr (5, [.ref h_a_d, .int a_n, .int a_minus])), (h_a_d, .inl (cI, a_d_n, .inl a_d)), (h_b, .inr (5, [.ref h_b_d, .int b_n, .int b_minus])), (h_b_d, .inl (cI, b_d_n, .inl b_d))] H := hP
                    have hD : va_D A [(h_x, .inr (5, [.ref h_x_d, .int b_n, .int s0_1])), (h_x_d, .inl (cI, x_d_n, .inl w_10)), (h_a, .inr (5, [.ref h_a_d, .int a_n, .int a_minus])), (h_a_d, .inl (cI, a_d_n, .inl a_d)), (h_b, .inr (5, [.ref h_b_d, .int b_n, .int b_minus])), (h_b_d, .inl (cI, b_d_n, .inl b_d))] := hD
                    refine lv_aload_n hx hb d_Nu_less_341 rfl (lv_at hl 0 rfl) ?_
                    obtain ⟨u_13, u_14, hc_15, h⟩ := ck_b2_s h
                    have hPc := hP.sub (ws' := [(h_x, .inr (5, [.ref h_x_d, .int b_n, .int s0_1])), (h_x_d, .inl (cI, x_d_n, .inl w_10))]) [0, 1] rfl
                    have hDc := hD.sub (ws' := [(h_x, .inr (5, [.ref h_x_d, .int b_n, .int s0_1])), (h_x_d, .inl (cI, x_d_n, .inl w_10))]) [0, 1] (by decide) rfl
                    have hFc := va_free (wc := [(h_x, .inr (5, [.ref h_x_d, .int b_n, .int s0_1])), (h_x_d, .inl (cI, x_d_n, .inl w_10))]) hD hS hA [0, 1] rfl
                    refine va_callv (va_runV (As := []) (rest := []) ⟨hx, hb, hml, hown, hts⟩ (c_N_trim l dC dI cI cJ cB cZ cT cN H.size h_x h_x_d b_n s0_1 x_d_n w_10 _ hc_15) (cwV 0 hts (tb_V tw_526 tw_527 tw_528 tw_7 tw_529) rfl rfl rfl (by decide +kernel) ⟨Nat.le_of_ble_eq_true rfl, Nat.le_of_ble_eq_true rfl⟩) ⟨fun a U g mk q => by obtain ⟨q0, q1, qP, qK, qN, qD⟩ := q; exact ⟨q0, q1, qP, va_K.moved (u := U) (U := U.calling g mk a) (Vm.Alike.refl U.vm) qK, qN.same rfl, qD⟩, va_recv hK hPc (ci := 5) (q0 := 0) rfl rfl, fun U hU hW => ⟨rfl, by rw [hU], by rw [hU]; exact hPc, va_K.moved hW.alike hK, hN.warm hW, hDc.weaken (fun _ _ _ _ => trivial)⟩⟩ rfl rfl hl.1 rfl (lv_room (Nat.le_of_ble_eq_true rfl)) d_Nu_less_342 ⟨Nat.zero_le _, Nat.zero_le _⟩) hS (fun q _ h => hFc q h) hFc (fun u t H1 locs ht hvm hw hB hz1 hk1 hS => ?_)
                    replace hw := hw.symm
                    subst hw
                    obtain ⟨hP1, -, hD1⟩ := hB
                    rw [ht] at hP1
                    obtain ⟨hP, hD⟩ := va_join (wr := [(h_a, .inr (5, [.ref h_a_d, .int a_n, .int a_minus])), (h_a_d, .inl (cI, a_d_n, .inl a_d)), (h_b, .inr (5, [.ref h_b_d, .int b_n, .int b_minus])), (h_b_d, .inl (cI, b_d_n, .inl b_d))]) (w1 := [(h_x, .inr (5, [.ref h_x_d, .int u_13, .int u_14])), (h_x_d, .inl (cI, x_d_n, .inl w_10))]) hP hD [0, 1] [2, 3, 4, 5] rfl rfl (by decide) (by decide) hk1 hFc hP1 hD1
                    generalize H1 = H at hP hS ⊢
                    have hP : va_P (dC, dI) cl_all [(h_x, .inr (5, [.ref h_x_d, .int u_13, .int u_14])), (h_x_d, .inl (cI, x_d_n, .inl w_10)), (h_a, .inr (5, [.ref h_a_d, .int a_n, .int a_minus])), (h_a_d, .inl (cI, a_d_n, .inl a_d)), (h_b, .inr (5, [.ref h_b_d, .int b_n, .int b_minus])), (h_b_d, .inl (cI, b_d_n, .inl b_d))] H := hP.sub [4, 5, 0, 1, 2, 3] rfl
                    have hD : va_D A [(h_x, .inr (5, [.ref h_x_d, .int u_13, .int u_14])), (h_x_d, .inl (cI, x_d_n, .inl w_10)), (h_a, .inr (5, [.ref h_a_d, .int a_n, .int a_minus])), (h_a_d, .inl (cI, a_d_n, .inl a_d)), (h_b, .inr (5, [.ref h_b_d, .int b_n, .int b_minus])), (h_b_d, .inl (cI, b_d_n, .inl b_d))] := hD.sub [4, 5, 0, 1, 2, 3] (by decide) rfl
                    obtain rfl := Option.some.inj h
                    subst hQ
                    exact W.vret hx hb hr (fun t ht hW => ⟨⟨(u_13, u_14, w_10), rfl, rfl, by rw [ht]; exact hP, va_K.moved hW.alike hK, hD⟩, hS.F ht⟩) hS.2.2 d_Nu_less_345
                  · exact absurd (ck_if_f h c_11) (by simp)
                · intro k_315 J_315 h
                  refine lo3_W (r := r) (fun (v8_16 : Int32) (v7_17 : Int32) (w_18 : Nat → Int32) => ∀ (H : Heap) (locs : List Loc), va_P (dC, dI) cl_all [(h_x, .inr (5, [.ref h_x_d, .int x_n, .int x_minus])), (h_x_d, .inl (cI, x_d_n, .inl w_18)), (h_a, .inr (5, [.ref h_a_d, .int a_n, .int a_minus])), (h_a_d, .inl (cI, a_d_n, .inl a_d)), (h_b, .inr (5, [.ref h_b_d, .int b_n, .int b_minus])), (h_b_d, .inl (cI, b_d_n, .inl b_d))] H → va_D A [(h_x, .inr (5, [.ref h_x_d, .int x_n, .int x_minus])), (h_x_d, .inl (cI, x_d_n, .inl w_18)), (h_a, .inr (5, [.ref h_a_d, .int a_n, .int a_minus])), (h_a_d, .inl (cI, a_d_n, .inl a_d)), (h_b, .inr (5, [.ref h_b_d, .int b_n, .int b_minus])), (h_b_d, .inl (cI, b_d_n, .inl b_d))] → va_S A s.heap H locs → ∀ ls : Array Slot, lv_has ls 10 [(0, .ref h_x), (3, .int s0_1), (4, .int 0), (5, .ref h_b), (6, .ref h_a), (7, .int v7_17), (8, .int v8_16)] → W p l e ({ frames := 1, cells := 0, slots := 0, locals := 22 } : Room) s m AR below meth c H locs 0 0 QQ (F0 m 236 ls [])) ?_ _ _ _ _ h _ _ hP hD hS _ (lv_sub hl [6, 5, 4, 3, 2, 1, 0] rfl)
                  intro k_236 v8_16 v7_17 w_18 J_236 h H locs hP hD hS ls hl
                  refine lv_iload hx hb d_Nu_less_236 (lv_at hl 6 rfl) ?_
                  refine lv_aload hx hb d_Nu_less_238 (lv_at hl 3 rfl) ?_
                  refine va_get (D := (dC, dI)) (ci := 5) (v := .int b_n) (C := "BasisWalkModel$Num") (T := T_Nu) (N := 3) hx hb hts iw1 hown hK hP 4 rfl rfl 1 (by decide) fl0 (fun _ h9 => h9) rfl d_Nu_less_240 ?_
                  refine lv_icmp_ge (tgt := 315) hx hb d_Nu_less_243 (by decide) (fun c_19 => ?_) (fun c_19 => ?_)
                  · replace h := ck_if_t h c_19
                    exact J_315 _ h _ _ hP hD hS _ (lv_sub hl [0, 1, 2, 3] rfl)
                  · replace h := ck_if_f h c_19
                    refine lv_aload hx hb d_Nu_less_246 (lv_at hl 3 rfl) ?_
                    refine va_get (D := (dC, dI)) (ci := 5) (v := .ref h_b_d) (C := "BasisWalkModel$Num") (T := T_Nu) (N := 3) hx hb hts iw1 hown hK hP 4 rfl rfl 0 (by decide) fl3 (fun _ h9 => h9) rfl d_Nu_less_248 ?_
                    refine lv_iload hx hb d_Nu_less_251 (lv_at hl 6 rfl) ?_
                    obtain ⟨g_20, h⟩ := ck_in_s h
                    refine va_iald hx hb hK hP 5 0 rfl rfl g_20 d_Nu_less_253 ?_
                    refine lv_iload hx hb d_Nu_less_254 (lv_at hl 6 rfl) ?_
                    refine lv_aload hx hb d_Nu_less_256 (lv_at hl 4 rfl) ?_
                    refine va_get (D := (dC, dI)) (ci := 5) (v := .int a_n) (C := "BasisWalkModel$Num") (T := T_Nu) (N := 3) hx hb hts iw1 hown hK hP 2 rfl rfl 1 (by decide) fl0 (fun _ h9 => h9) rfl d_Nu_less_258 ?_
                    refine ck_jn_W h (fun k' => ∀ (s0_21 : Int32), k' s0_21 = some r → ∀ (H : Heap) (locs : List Loc), va_P (dC, dI) cl_all [(h_x, .inr (5, [.ref h_x_d, .int x_n, .int x_minus])), (h_x_d, .inl (cI, x_d_n, .inl w_18)), (h_a, .inr (5, [.ref h_a_d, .int a_n, .int a_minus])), (h_a_d, .inl (cI, a_d_n, .inl a_d)), (h_b, .inr (5, [.ref h_b_d, .int b_n, .int b_minus])), (h_b_d, .inl (cI, b_d_n, .inl b_d))] H → va_D A [(h_x, .inr (5, [.ref h_x_d, .int x_n, .int x_minus])), (h_x_d, .inl (cI, x_d_n, .inl w_18)), (h_a, .inr (5, [.ref h_a_d, .int a_n, .int a_minus])), (h_a_d, .inl (cI, a_d_n, .inl a_d)), (h_b, .inr (5, [.ref h_b_d, .int b_n, .int b_minus])), (h_b_d, .inl (cI, b_d_n, .inl b_d))] → va_S A s.heap H locs → ∀ ls : Array Slot, lv_has ls 10 [(0, .ref h_x), (3, .int s0_1), (4, .int 0), (5, .ref h_b), (6, .ref h_a), (7, .int v7_17), (8, .int v8_16)] → W p l e ({ frames := 1, cells := 0, slots := 0, locals := 22 } : Room) s m AR below meth c H locs 0 0 QQ (F0 m 276 ls [.int s0_21, .int (b_d v8_16.toNatClampNeg)])) ?_ ?_
                    · intro s0_21 h H locs hP hD hS ls hl
                      refine lv_isub hx hb d_Nu_less_276 ?_
                      refine lv_iload hx hb d_Nu_less_277 (lv_at hl 5 rfl) ?_
                      refine lv_isub hx hb d_Nu_less_279 ?_
                      refine lv_topi (fun x_22 ex_22 => ?_)
                      replace h := ck_nm_s h ex_22
                      refine lv_istore (lv' := [(9, .int x_22), (0, .ref h_x), (3, .int s0_1), (4, .int 0), (5, .ref h_b), (6, .ref h_a), (7, .int v7_17), (8, .int v8_16)]) hx hb d_Nu_less_280 hl (by decide) rfl (fun ls hl => ?_)
                      refine lv_iload hx hb d_Nu_less_282 (lv_at hl 0 rfl) ?_
                      refine ck_jn_W h (fun k' => ∀ (s0_23 : Int32), k' s0_23 = some r → ∀ (H : Heap) (locs : List Loc), va_P (dC, dI) cl_all [(h_x, .inr (5, [.ref h_x_d, .int x_n, .int x_minus])), (h_x_d, .inl (cI, x_d_n, .inl w_18)), (h_a, .inr (5, [.ref h_a_d, .int a_n, .int a_minus])), (h_a_d, .inl (cI, a_d_n, .inl a_d)), (h_b, .inr (5, [.ref h_b_d, .int b_n, .int b_minus])), (h_b_d, .inl (cI, b_d_n, .inl b_d))] H → va_D A [(h_x, .inr (5, [.ref h_x_d, .int x_n, .int x_minus])), (h_x_d, .inl (cI, x_d_n, .inl w_18)), (h_a, .inr (5, [.ref h_a_d, .int a_n, .int a_minus])), (h_a_d, .inl (cI, a_d_n, .inl a_d)), (h_b, .inr (5, [.ref h_b_d, .int b_n, .int b_minus])), (h_b_d, .inl (cI, b_d_n, .inl b_d))] → va_S A s.heap H locs → ∀ ls : Array Slot, lv_has ls 10 [(0, .ref h_x), (3, .int s0_1), (4, .int 0), (5, .ref h_b), (6, .ref h_a), (8, .int v8_16), (9, .int x_22)] → W p l e ({ frames := 1, cells := 0, slots := 0, locals := 22 } : Room) s m AR below meth c H locs 0 0 QQ (F0 m 292 ls [.int s0_23])) ?_ ?_
                      · intro s0_23 h H locs hP hD hS ls hl
                        refine lv_istore (lv' := [(7, .int s0_23), (0, .ref h_x), (3, .int s0_1), (4, .int 0), (5, .ref h_b), (6, .ref h_a), (8, .int v8_16), (9, .int x_22)]) hx hb d_Nu_less_292 hl (by decide) rfl (fun ls hl => ?_)
                        refine lv_aload_n hx hb d_Nu_less_294 rfl (lv_at hl 1 rfl) ?_
                        refine va_get (D := (dC, dI)) (ci := 5) (v := .ref h_x_d) (C := "BasisWalkModel$Num") (T := T_Nu) (N := 3) hx hb hts iw1 hown hK hP 0 rfl rfl 0 (by decide) fl3 (fun _ h9 => h9) rfl d_Nu_less_295 ?_
                        refine lv_iload hx hb d_Nu_less_298 (lv_at hl 6 rfl) ?_
                        refine lv_iload hx hb d_Nu_less_300 (lv_at hl 7 rfl) ?_
                        refine lv_ldc (v := 65536) hx hb hown kc4 d_Nu_less_302 ?_
                        refine lv_iload hx hb d_Nu_less_304 (lv_at hl 0 rfl) ?_
                        refine lv_imul hx hb d_Nu_less_306 ?_
                        refine lv_iadd hx hb d_Nu_less_307 ?_
                        obtain ⟨g_24, h⟩ := ck_in_s h
                        refine va_iast hx hb hK hP hD hS 1 0 rfl rfl g_24 d_Nu_less_308 (fun H locs hP hD hS => ?_)
                        have hP : va_P (dC, dI) cl_all [(h_x, .inr (5, [.ref h_x_d, .int x_n, .int x_minus])), (h_x_d, .inl (cI, x_d_n, .inl (upd w_18 v8_16.toNatClampNeg (x_22 + (65536 * s0_23))))), (h_a, .inr (5, [.ref h_a_d, .int a_n, .int a_minus])), (h_a_d, .inl (cI, a_d_n, .inl a_d)), (h_b, .inr (5, [.ref h_b_d, .int b_n, .int b_minus])), (h_b_d, .inl (cI, b_d_n, .inl b_d))] H := hP
                        have hD : va_D A [(h_x, .inr (5, [.ref h_x_d, .int x_n, .int x_minus])), (h_x_d, .inl (cI, x_d_n, .inl (upd w_18 v8_16.toNatClampNeg (x_22 + (65536 * s0_23))))), (h_a, .inr (5, [.ref h_a_d, .int a_n, .int a_minus])), (h_a_d, .inl (cI, a_d_n, .inl a_d)), (h_b, .inr (5, [.ref h_b_d, .int b_n, .int b_minus])), (h_b_d, .inl (cI, b_d_n, .inl b_d))] := hD
                        obtain ⟨x_25, ex_25⟩ : ∃ y : Int32, y = v8_16 + 1 := ⟨_, rfl⟩
                        replace h := ck_nm_s h ex_25
                        refine lv_iinc (v := x_25) (lv' := [(8, .int x_25), (7, .int s0_23), (0, .ref h_x), (3, .int s0_1), (4, .int 0), (5, .ref h_b), (6, .ref h_a), (9, .int x_22)]) hx hb d_Nu_less_309 hl (k := 6) rfl (by rw [ex_25]; rfl) (by decide) rfl (fun ls hl => ?_)
                        refine lv_goto (tgt := 236) hx hb d_Nu_less_312 (by decide) ?_
                        exact J_236 _ _ _ h _ _ hP hD hS _ (lv_sub hl [2, 3, 4, 5, 6, 1, 0] rfl)
                      · intro k_292 J_292 h
                        refine lv_if_ge (tgt := 291) hx hb d_Nu_less_284 (by decide) (fun c_26 => ?_) (fun c_26 => ?_)
                        · replace h := ck_if_t h c_26
                          refine lv_iconst (v := 0) hx hb d_Nu_less_291 (by decide) ?_
                          exact J_292 _ h _ _ hP hD hS _ (lv_sub hl [1, 2, 3, 4, 5, 7, 0] rfl)
                        · replace h := ck_if_f h c_26
                          refine lv_iconst (v := 1) hx hb d_Nu_less_287 (by decide) ?_
                          refine lv_goto (tgt := 292) hx hb d_Nu_less_288 (by decide) ?_
                          exact J_292 _ h _ _ hP hD hS _ (lv_sub hl [1, 2, 3, 4, 5, 7, 0] rfl)
                    · intro k_276 J_276 h
                      refine lv_icmp_ge (tgt := 275) hx hb d_Nu_less_261 (by decide) (fun c_27 => ?_) (fun c_27 => ?_)
                      · replace h := ck_if_t h c_27
                        refine lv_iconst (v := 0) hx hb d_Nu_less_275 (by decide) ?_
                        exact J_276 _ h _ _ hP hD hS _ (lv_sub hl [0, 1, 2, 3, 4, 5, 6] rfl)
                      · replace h := ck_if_f h c_27
                        refine lv_aload hx hb d_Nu_less_264 (lv_at hl 4 rfl) ?_
                        refine va_get (D := (dC, dI)) (ci := 5) (v := .ref h_a_d) (C := "BasisWalkModel$Num") (T := T_Nu) (N := 3) hx hb hts iw1 hown hK hP 2 rfl rfl 0 (by decide) fl3 (fun _ h9 => h9) rfl d_Nu_less_266 ?_
                        refine lv_iload hx hb d_Nu_less_269 (lv_at hl 6 rfl) ?_
                        obtain ⟨g_28, h⟩ := ck_in_s h
                        refine va_iald hx hb hK hP 3 0 rfl rfl g_28 d_Nu_less_271 ?_
                        refine lv_goto (tgt := 276) hx hb d_Nu_less_272 (by decide) ?_
                        exact J_276 _ h _ _ hP hD hS _ (lv_sub hl [0, 1, 2, 3, 4, 5, 6] rfl)
              · exact absurd (ck_if_f h c_9) (by simp)
            · exact absurd (ck_if_f h c_8) (by simp)
          · exact absurd (ck_if_f h c_7) (by simp)
        · exact absurd (ck_if_t h c_4) (by simp)
  · intro k_19 J_19 h
    refine ck_jn_W h (fun k' => ∀ u : Unit, k' u = some r → ∀ (H : Heap) (locs : List Loc), va_P (dC, dI) cl_all [(h_x, .inr (5, [.ref h_x_d, .int x_n, .int x_minus])), (h_x_d, .inl (cI, x_d_n, .inl x_d)), (h_a, .inr (5, [.ref h_a_d, .int a_n, .int a_minus])), (h_a_d, .inl (cI, a_d_n, .inl a_d)), (h_b, .inr (5, [.ref h_b_d, .int b_n, .int b_minus])), (h_b_d, .inl (cI, b_d_n, .inl b_d))] H → va_D A [(h_x, .inr (5, [.ref h_x_d, .int x_n, .int x_minus])), (h_x_d, .inl (cI, x_d_n, .inl x_d)), (h_a, .inr (5, [.ref h_a_d, .int a_n, .int a_minus])), (h_a_d, .inl (cI, a_d_n, .inl a_d)), (h_b, .inr (5, [.ref h_b_d, .int b_n, .int b_minus])), (h_b_d, .inl (cI, b_d_n, .inl b_d))] → va_S A s.heap H locs → ∀ ls : Array Slot, lv_has ls 10 [(0, .ref h_x), (1, .ref h_a), (2, .ref h_b)] → W p l e ({ frames := 1, cells := 0, slots := 0, locals := 22 } : Room) s m AR below meth c H locs 0 0 QQ (F0 m 18 ls [])) ?_ ?_
    · intro _ h H locs hP hD hS ls hl
      refine lv_iconst (v := 0) hx hb d_Nu_less_18 (by decide) ?_
      exact J_19 _ h _ _ hP hD hS _ (lv_sub hl [0, 1, 2] rfl)
    · intro k_18 J_18 h
      refine lv_if_le (tgt := 18) hx hb d_Nu_less_4 (by decide) (fun c_29 => ?_) (fun c_29 => ?_)
      · replace h := ck_if_t h c_29
        exact J_18 _ h _ _ hP hD hS _ (lv_sub hl [0, 1, 2] rfl)
      · replace h := ck_if_f h c_29
        refine lv_aload_n hx hb d_Nu_less_7 rfl (lv_at hl 2 rfl) ?_
        refine va_get (D := (dC, dI)) (ci := 5) (v := .int b_minus) (C := "BasisWalkModel$Num") (T := T_Nu) (N := 3) hx hb hts iw1 hown hK hP 4 rfl rfl 2 (by decide) fl2 (fun _ h9 => h9) rfl d_Nu_less_8 ?_
        refine lv_if_ne (tgt := 18) hx hb d_Nu_less_11 (by decide) (fun c_30 => ?_) (fun c_30 => ?_)
        · replace h := ck_if_f h c_30
          exact J_18 _ h _ _ hP hD hS _ (lv_sub hl [0, 1, 2] rfl)
        · replace h := ck_if_t h c_30
          refine lv_iconst (v := 1) hx hb d_Nu_less_14 (by decide) ?_
          refine lv_goto (tgt := 19) hx hb d_Nu_less_15 (by decide) ?_
          exact J_19 _ h _ _ hP hD hS _ (lv_sub hl [0, 1, 2] rfl)
def f_N_less (x_d_n : Nat) (x_d : Nat → Int32) (a_n : Int32) (a_minus : Int32) (a_d_n : Nat) (a_d : Nat → Int32) (b_n : Int32) (b_minus : Int32) (b_d_n : Nat) (b_d : Nat → Int32) : Option (Int32 × Int32 × (Nat → Int32)) :=
  ck_or (f_N_lessA x_d_n x_d a_n a_minus a_d_n a_d b_n b_minus b_d_n b_d) (ck_or (f_N_lessB x_d_n x_d a_n a_minus a_d_n a_d b_n b_minus b_d_n b_d) (f_N_lessC x_d_n x_d a_n a_minus a_d_n a_d b_n b_minus b_d_n b_d))
theorem c_N_less (l : Launch) (dC : Nat → ClassId) (dI : Nat → Nat → Nat) (cI cJ cB cZ cT cN : ClassId) (sz : Nat) (h_x : Nat) (h_a : Nat) (h_b : Nat) (h_x_d : Nat) (h_a_d : Nat) (h_b_d : Nat) (x_n : Int32) (x_minus : Int32) (x_d_n : Nat) (x_d : Nat → Int32) (a_n : Int32) (a_minus : Int32) (a_d_n : Nat) (a_d : Nat → Int32) (b_n : Int32) (b_minus : Int32) (b_d_n : Nat) (b_d : Nat → Int32) (r : Int32 × Int32 × (Nat → Int32)) (h : f_N_less x_d_n x_d a_n a_minus a_d_n a_d b_n b_minus b_d_n b_d = some r) : Met l y_Nu_less w_Nu_less ({ frames := 1, cells := 0, slots := 0, locals := 22 } : Room) (va_Pc [.ref h_x, .ref h_a, .ref h_b] (fun U => U.heap.size = sz ∧ va_P (dC, dI) cl_all [(h_x, .inr (5, [.ref h_x_d, .int x_n, .int x_minus])), (h_x_d, .inl (cI, x_d_n, .inl x_d)), (h_a, .inr (5, [.ref h_a_d, .int a_n, .int a_minus])), (h_a_d, .inl (cI, a_d_n, .inl a_d)), (h_b, .inr (5, [.ref h_b_d, .int b_n, .int b_minus])), (h_b_d, .inl (cI, b_d_n, .inl b_d))] U.heap ∧ va_K (dC, dI) cl_all [(cI, .int), (cJ, .long), (cB, .byte), (cZ, .boolean), (cT, .object "BasisWalk$Table"), (cN, .object "BasisWalkModel$Num")] U ∧ NW U ∧ va_D (fun _ => True) [(h_x, .inr (5, [.ref h_x_d, .int x_n, .int x_minus])), (h_x_d, .inl (cI, x_d_n, .inl x_d)), (h_a, .inr (5, [.ref h_a_d, .int a_n, .int a_minus])), (h_a_d, .inl (cI, a_d_n, .inl a_d)), (h_b, .inr (5, [.ref h_b_d, .int b_n, .int b_minus])), (h_b_d, .inl (cI, b_d_n, .inl b_d))])) (va_Qv (fun u : Int32 × Int32 × (Nat → Int32) => u = r) (fun (u : Int32 × Int32 × (Nat → Int32)) (t : State) => va_P (dC, dI) cl_all [(h_x, .inr (5, [.ref h_x_d, .int u.1, .int u.2.1])), (h_x_d, .inl (cI, x_d_n, .inl u.2.2)), (h_a, .inr (5, [.ref h_a_d, .int a_n, .int a_minus])), (h_a_d, .inl (cI, a_d_n, .inl a_d)), (h_b, .inr (5, [.ref h_b_d, .int b_n, .int b_minus])), (h_b_d, .inl (cI, b_d_n, .inl b_d))] t.heap ∧ va_K (dC, dI) cl_all [(cI, .int), (cJ, .long), (cB, .byte), (cZ, .boolean), (cT, .object "BasisWalk$Table"), (cN, .object "BasisWalkModel$Num")] t ∧ va_D (va_A [(h_x, .inr (5, [.ref h_x_d, .int x_n, .int x_minus])), (h_x_d, .inl (cI, x_d_n, .inl x_d)), (h_a, .inr (5, [.ref h_a_d, .int a_n, .int a_minus])), (h_a_d, .inl (cI, a_d_n, .inl a_d)), (h_b, .inr (5, [.ref h_b_d, .int b_n, .int b_minus])), (h_b_d, .inl (cI, b_d_n, .inl b_d))] sz) [(h_x, .inr (5, [.ref h_x_d, .int u.1, .int u.2.1])), (h_x_d, .inl (cI, x_d_n, .inl u.2.2)), (h_a, .inr (5, [.ref h_a_d, .int a_n, .int a_minus])), (h_a_d, .inl (cI, a_d_n, .inl a_d)), (h_b, .inr (5, [.ref h_b_d, .int b_n, .int b_minus])), (h_b_d, .inl (cI, b_d_n, .inl b_d))]) (va_A [(h_x, .inr (5, [.ref h_x_d, .int x_n, .int x_minus])), (h_x_d, .inl (cI, x_d_n, .inl x_d)), (h_a, .inr (5, [.ref h_a_d, .int a_n, .int a_minus])), (h_a_d, .inl (cI, a_d_n, .inl a_d)), (h_b, .inr (5, [.ref h_b_d, .int b_n, .int b_minus])), (h_b_d, .inl (cI, b_d_n, .inl b_d))] sz)) 0 0 (va_A [(h_x, .inr (5, [.ref h_x_d, .int x_n, .int x_minus])), (h_x_d, .inl (cI, x_d_n, .inl x_d)), (h_a, .inr (5, [.ref h_a_d, .int a_n, .int a_minus])), (h_a_d, .inl (cI, a_d_n, .inl a_d)), (h_b, .inr (5, [.ref h_b_d, .int b_n, .int b_minus])), (h_b_d, .inl (cI, b_d_n, .inl b_d))] sz) := by
  unfold f_N_less at h
  rcases ck_or_s h with h | h
  · exact c_N_lessA l dC dI cI cJ cB cZ cT cN sz h_x h_a h_b h_x_d h_a_d h_b_d x_n x_minus x_d_n x_d a_n a_minus a_d_n a_d b_n b_minus b_d_n b_d r h
  rcases ck_or_s h with h | h
  · exact c_N_lessB l dC dI cI cJ cB cZ cT cN sz h_x h_a h_b h_x_d h_a_d h_b_d x_n x_minus x_d_n x_d a_n a_minus a_d_n a_d b_n b_minus b_d_n b_d r h
  exact c_N_lessC l dC dI cI cJ cB cZ cT cN sz h_x h_a h_b h_x_d h_a_d h_b_d x_n x_minus x_d_n x_d a_n a_minus a_d_n a_d b_n b_minus b_d_n b_d r h
