theorem d_Mo_polynomial_0 : decode prog_7_method_35_code 0 = .ok (.iconst 0, 1) := by decide +kernel
theorem d_Mo_polynomial_1 : decode prog_7_method_35_code 1 = .ok (.istore_n 2, 1) := by decide +kernel
theorem d_Mo_polynomial_2 : decode prog_7_method_35_code 2 = .ok (.iload_n 2, 1) := by decide +kernel
theorem d_Mo_polynomial_3 : decode prog_7_method_35_code 3 = .ok (.sipush 169, 3) := by decide +kernel
theorem d_Mo_polynomial_6 : decode prog_7_method_35_code 6 = .ok (.if_icmp .ge 16, 3) := by decide +kernel
theorem d_Mo_polynomial_9 : decode prog_7_method_35_code 9 = .ok (.aload_n 0, 1) := by decide +kernel
theorem d_Mo_polynomial_10 : decode prog_7_method_35_code 10 = .ok (.getfield 185, 3) := by decide +kernel
theorem d_Mo_polynomial_13 : decode prog_7_method_35_code 13 = .ok (.iload_n 2, 1) := by decide +kernel
theorem d_Mo_polynomial_14 : decode prog_7_method_35_code 14 = .ok (.lconst 0, 1) := by decide +kernel
theorem d_Mo_polynomial_15 : decode prog_7_method_35_code 15 = .ok (.lastore, 1) := by decide +kernel
theorem d_Mo_polynomial_16 : decode prog_7_method_35_code 16 = .ok (.iinc 2 1, 3) := by decide +kernel
theorem d_Mo_polynomial_19 : decode prog_7_method_35_code 19 = .ok (.goto (-17), 3) := by decide +kernel
theorem d_Mo_polynomial_22 : decode prog_7_method_35_code 22 = .ok (.iconst 0, 1) := by decide +kernel
theorem d_Mo_polynomial_23 : decode prog_7_method_35_code 23 = .ok (.istore_n 2, 1) := by decide +kernel
theorem d_Mo_polynomial_24 : decode prog_7_method_35_code 24 = .ok (.iload_n 2, 1) := by decide +kernel
theorem d_Mo_polynomial_25 : decode prog_7_method_35_code 25 = .ok (.bipush 13, 2) := by decide +kernel
theorem d_Mo_polynomial_27 : decode prog_7_method_35_code 27 = .ok (.if_icmp .ge 79, 3) := by decide +kernel
theorem d_Mo_polynomial_30 : decode prog_7_method_35_code 30 = .ok (.iconst 0, 1) := by decide +kernel
theorem d_Mo_polynomial_31 : decode prog_7_method_35_code 31 = .ok (.istore_n 3, 1) := by decide +kernel
theorem d_Mo_polynomial_32 : decode prog_7_method_35_code 32 = .ok (.iload_n 3, 1) := by decide +kernel
theorem d_Mo_polynomial_33 : decode prog_7_method_35_code 33 = .ok (.bipush 13, 2) := by decide +kernel
theorem d_Mo_polynomial_35 : decode prog_7_method_35_code 35 = .ok (.if_icmp .ge 65, 3) := by decide +kernel
theorem d_Mo_polynomial_38 : decode prog_7_method_35_code 38 = .ok (.aload_n 0, 1) := by decide +kernel
theorem d_Mo_polynomial_39 : decode prog_7_method_35_code 39 = .ok (.getfield 189, 3) := by decide +kernel
theorem d_Mo_polynomial_42 : decode prog_7_method_35_code 42 = .ok (.bipush 13, 2) := by decide +kernel
theorem d_Mo_polynomial_44 : decode prog_7_method_35_code 44 = .ok (.iload_n 2, 1) := by decide +kernel
theorem d_Mo_polynomial_45 : decode prog_7_method_35_code 45 = .ok (.imul, 1) := by decide +kernel
theorem d_Mo_polynomial_46 : decode prog_7_method_35_code 46 = .ok (.iload_n 3, 1) := by decide +kernel
theorem d_Mo_polynomial_47 : decode prog_7_method_35_code 47 = .ok (.iadd, 1) := by decide +kernel
theorem d_Mo_polynomial_48 : decode prog_7_method_35_code 48 = .ok (.iload_n 3, 1) := by decide +kernel
theorem d_Mo_polynomial_49 : decode prog_7_method_35_code 49 = .ok (.ifCond .ne 7, 3) := by decide +kernel
theorem d_Mo_polynomial_52 : decode prog_7_method_35_code 52 = .ok (.lconst 1, 1) := by decide +kernel
theorem d_Mo_polynomial_53 : decode prog_7_method_35_code 53 = .ok (.goto 40, 3) := by decide +kernel
theorem d_Mo_polynomial_56 : decode prog_7_method_35_code 56 = .ok (.iload_n 2, 1) := by decide +kernel
theorem d_Mo_polynomial_57 : decode prog_7_method_35_code 57 = .ok (.ifCond .ne 7, 3) := by decide +kernel
theorem d_Mo_polynomial_60 : decode prog_7_method_35_code 60 = .ok (.lconst 0, 1) := by decide +kernel
theorem d_Mo_polynomial_61 : decode prog_7_method_35_code 61 = .ok (.goto 32, 3) := by decide +kernel
theorem d_Mo_polynomial_64 : decode prog_7_method_35_code 64 = .ok (.aload_n 0, 1) := by decide +kernel
theorem d_Mo_polynomial_65 : decode prog_7_method_35_code 65 = .ok (.getfield 189, 3) := by decide +kernel
theorem d_Mo_polynomial_68 : decode prog_7_method_35_code 68 = .ok (.bipush 13, 2) := by decide +kernel
theorem d_Mo_polynomial_70 : decode prog_7_method_35_code 70 = .ok (.iload_n 2, 1) := by decide +kernel
theorem d_Mo_polynomial_71 : decode prog_7_method_35_code 71 = .ok (.iconst 1, 1) := by decide +kernel
theorem d_Mo_polynomial_72 : decode prog_7_method_35_code 72 = .ok (.isub, 1) := by decide +kernel
theorem d_Mo_polynomial_73 : decode prog_7_method_35_code 73 = .ok (.imul, 1) := by decide +kernel
theorem d_Mo_polynomial_74 : decode prog_7_method_35_code 74 = .ok (.iload_n 3, 1) := by decide +kernel
theorem d_Mo_polynomial_75 : decode prog_7_method_35_code 75 = .ok (.iadd, 1) := by decide +kernel
theorem d_Mo_polynomial_76 : decode prog_7_method_35_code 76 = .ok (.laload, 1) := by decide +kernel
theorem d_Mo_polynomial_77 : decode prog_7_method_35_code 77 = .ok (.aload_n 0, 1) := by decide +kernel
theorem d_Mo_polynomial_78 : decode prog_7_method_35_code 78 = .ok (.getfield 189, 3) := by decide +kernel
theorem d_Mo_polynomial_81 : decode prog_7_method_35_code 81 = .ok (.bipush 13, 2) := by decide +kernel
theorem d_Mo_polynomial_83 : decode prog_7_method_35_code 83 = .ok (.iload_n 2, 1) := by decide +kernel
theorem d_Mo_polynomial_84 : decode prog_7_method_35_code 84 = .ok (.iconst 1, 1) := by decide +kernel
theorem d_Mo_polynomial_85 : decode prog_7_method_35_code 85 = .ok (.isub, 1) := by decide +kernel
theorem d_Mo_polynomial_86 : decode prog_7_method_35_code 86 = .ok (.imul, 1) := by decide +kernel
theorem d_Mo_polynomial_87 : decode prog_7_method_35_code 87 = .ok (.iload_n 3, 1) := by decide +kernel
theorem d_Mo_polynomial_88 : decode prog_7_method_35_code 88 = .ok (.iadd, 1) := by decide +kernel
theorem d_Mo_polynomial_89 : decode prog_7_method_35_code 89 = .ok (.iconst 1, 1) := by decide +kernel
theorem d_Mo_polynomial_90 : decode prog_7_method_35_code 90 = .ok (.isub, 1) := by decide +kernel
theorem d_Mo_polynomial_91 : decode prog_7_method_35_code 91 = .ok (.laload, 1) := by decide +kernel
theorem d_Mo_polynomial_92 : decode prog_7_method_35_code 92 = .ok (.ladd, 1) := by decide +kernel
theorem d_Mo_polynomial_93 : decode prog_7_method_35_code 93 = .ok (.lastore, 1) := by decide +kernel
theorem d_Mo_polynomial_94 : decode prog_7_method_35_code 94 = .ok (.iinc 3 1, 3) := by decide +kernel
theorem d_Mo_polynomial_97 : decode prog_7_method_35_code 97 = .ok (.goto (-65), 3) := by decide +kernel
theorem d_Mo_polynomial_100 : decode prog_7_method_35_code 100 = .ok (.iinc 2 1, 3) := by decide +kernel
theorem d_Mo_polynomial_103 : decode prog_7_method_35_code 103 = .ok (.goto (-79), 3) := by decide +kernel
theorem d_Mo_polynomial_106 : decode prog_7_method_35_code 106 = .ok (.iconst 0, 1) := by decide +kernel
theorem d_Mo_polynomial_107 : decode prog_7_method_35_code 107 = .ok (.istore_n 2, 1) := by decide +kernel
theorem d_Mo_polynomial_108 : decode prog_7_method_35_code 108 = .ok (.iload_n 2, 1) := by decide +kernel
theorem d_Mo_polynomial_109 : decode prog_7_method_35_code 109 = .ok (.aload_n 0, 1) := by decide +kernel
theorem d_Mo_polynomial_110 : decode prog_7_method_35_code 110 = .ok (.iload_n 1, 1) := by decide +kernel
theorem d_Mo_polynomial_111 : decode prog_7_method_35_code 111 = .ok (.invokevirtual 226, 3) := by decide +kernel
theorem d_Mo_polynomial_114 : decode prog_7_method_35_code 114 = .ok (.if_icmp .gt 136, 3) := by decide +kernel
theorem d_Mo_polynomial_117 : decode prog_7_method_35_code 117 = .ok (.aload_n 0, 1) := by decide +kernel
theorem d_Mo_polynomial_118 : decode prog_7_method_35_code 118 = .ok (.getfield 169, 3) := by decide +kernel
theorem d_Mo_polynomial_121 : decode prog_7_method_35_code 121 = .ok (.iload_n 1, 1) := by decide +kernel
theorem d_Mo_polynomial_122 : decode prog_7_method_35_code 122 = .ok (.iaload, 1) := by decide +kernel
theorem d_Mo_polynomial_123 : decode prog_7_method_35_code 123 = .ok (.aload_n 0, 1) := by decide +kernel
theorem d_Mo_polynomial_124 : decode prog_7_method_35_code 124 = .ok (.iload_n 1, 1) := by decide +kernel
theorem d_Mo_polynomial_125 : decode prog_7_method_35_code 125 = .ok (.iload_n 2, 1) := by decide +kernel
theorem d_Mo_polynomial_126 : decode prog_7_method_35_code 126 = .ok (.invokevirtual 222, 3) := by decide +kernel
theorem d_Mo_polynomial_129 : decode prog_7_method_35_code 129 = .ok (.isub, 1) := by decide +kernel
theorem d_Mo_polynomial_130 : decode prog_7_method_35_code 130 = .ok (.istore_n 3, 1) := by decide +kernel
theorem d_Mo_polynomial_131 : decode prog_7_method_35_code 131 = .ok (.aload_n 0, 1) := by decide +kernel
theorem d_Mo_polynomial_132 : decode prog_7_method_35_code 132 = .ok (.getfield 182, 3) := by decide +kernel
theorem d_Mo_polynomial_135 : decode prog_7_method_35_code 135 = .ok (.iload_n 2, 1) := by decide +kernel
theorem d_Mo_polynomial_136 : decode prog_7_method_35_code 136 = .ok (.iaload, 1) := by decide +kernel
theorem d_Mo_polynomial_137 : decode prog_7_method_35_code 137 = .ok (.aload_n 0, 1) := by decide +kernel
theorem d_Mo_polynomial_138 : decode prog_7_method_35_code 138 = .ok (.iload_n 1, 1) := by decide +kernel
theorem d_Mo_polynomial_139 : decode prog_7_method_35_code 139 = .ok (.iload_n 2, 1) := by decide +kernel
theorem d_Mo_polynomial_140 : decode prog_7_method_35_code 140 = .ok (.invokevirtual 222, 3) := by decide +kernel
theorem d_Mo_polynomial_143 : decode prog_7_method_35_code 143 = .ok (.isub, 1) := by decide +kernel
theorem d_Mo_polynomial_144 : decode prog_7_method_35_code 144 = .ok (.istore 4, 2) := by decide +kernel
theorem d_Mo_polynomial_146 : decode prog_7_method_35_code 146 = .ok (.iconst 0, 1) := by decide +kernel
theorem d_Mo_polynomial_147 : decode prog_7_method_35_code 147 = .ok (.istore 5, 2) := by decide +kernel
theorem d_Mo_polynomial_149 : decode prog_7_method_35_code 149 = .ok (.iload 5, 2) := by decide +kernel
theorem d_Mo_polynomial_151 : decode prog_7_method_35_code 151 = .ok (.iload_n 3, 1) := by decide +kernel
theorem d_Mo_polynomial_152 : decode prog_7_method_35_code 152 = .ok (.if_icmp .gt 92, 3) := by decide +kernel
theorem d_Mo_polynomial_155 : decode prog_7_method_35_code 155 = .ok (.iconst 0, 1) := by decide +kernel
theorem d_Mo_polynomial_156 : decode prog_7_method_35_code 156 = .ok (.istore 6, 2) := by decide +kernel
theorem d_Mo_polynomial_158 : decode prog_7_method_35_code 158 = .ok (.iload 6, 2) := by decide +kernel
theorem d_Mo_polynomial_160 : decode prog_7_method_35_code 160 = .ok (.iload 4, 2) := by decide +kernel
theorem d_Mo_polynomial_162 : decode prog_7_method_35_code 162 = .ok (.if_icmp .gt 76, 3) := by decide +kernel
theorem d_Mo_polynomial_165 : decode prog_7_method_35_code 165 = .ok (.aload_n 0, 1) := by decide +kernel
theorem d_Mo_polynomial_166 : decode prog_7_method_35_code 166 = .ok (.getfield 189, 3) := by decide +kernel
theorem d_Mo_polynomial_169 : decode prog_7_method_35_code 169 = .ok (.bipush 13, 2) := by decide +kernel
theorem d_Mo_polynomial_171 : decode prog_7_method_35_code 171 = .ok (.iload_n 3, 1) := by decide +kernel
theorem d_Mo_polynomial_172 : decode prog_7_method_35_code 172 = .ok (.imul, 1) := by decide +kernel
theorem d_Mo_polynomial_173 : decode prog_7_method_35_code 173 = .ok (.iload 5, 2) := by decide +kernel
theorem d_Mo_polynomial_175 : decode prog_7_method_35_code 175 = .ok (.iadd, 1) := by decide +kernel
theorem d_Mo_polynomial_176 : decode prog_7_method_35_code 176 = .ok (.laload, 1) := by decide +kernel
theorem d_Mo_polynomial_177 : decode prog_7_method_35_code 177 = .ok (.aload_n 0, 1) := by decide +kernel
theorem d_Mo_polynomial_178 : decode prog_7_method_35_code 178 = .ok (.getfield 189, 3) := by decide +kernel
theorem d_Mo_polynomial_181 : decode prog_7_method_35_code 181 = .ok (.bipush 13, 2) := by decide +kernel
theorem d_Mo_polynomial_183 : decode prog_7_method_35_code 183 = .ok (.iload 4, 2) := by decide +kernel
theorem d_Mo_polynomial_185 : decode prog_7_method_35_code 185 = .ok (.imul, 1) := by decide +kernel
theorem d_Mo_polynomial_186 : decode prog_7_method_35_code 186 = .ok (.iload 6, 2) := by decide +kernel
theorem d_Mo_polynomial_188 : decode prog_7_method_35_code 188 = .ok (.iadd, 1) := by decide +kernel
theorem d_Mo_polynomial_189 : decode prog_7_method_35_code 189 = .ok (.laload, 1) := by decide +kernel
theorem d_Mo_polynomial_190 : decode prog_7_method_35_code 190 = .ok (.lmul, 1) := by decide +kernel
theorem d_Mo_polynomial_191 : decode prog_7_method_35_code 191 = .ok (.lstore 7, 2) := by decide +kernel
theorem d_Mo_polynomial_193 : decode prog_7_method_35_code 193 = .ok (.aload_n 0, 1) := by decide +kernel
theorem d_Mo_polynomial_194 : decode prog_7_method_35_code 194 = .ok (.getfield 185, 3) := by decide +kernel
theorem d_Mo_polynomial_197 : decode prog_7_method_35_code 197 = .ok (.bipush 13, 2) := by decide +kernel
theorem d_Mo_polynomial_199 : decode prog_7_method_35_code 199 = .ok (.iload 5, 2) := by decide +kernel
theorem d_Mo_polynomial_201 : decode prog_7_method_35_code 201 = .ok (.imul, 1) := by decide +kernel
theorem d_Mo_polynomial_202 : decode prog_7_method_35_code 202 = .ok (.iload 6, 2) := by decide +kernel
theorem d_Mo_polynomial_204 : decode prog_7_method_35_code 204 = .ok (.iadd, 1) := by decide +kernel
theorem d_Mo_polynomial_205 : decode prog_7_method_35_code 205 = .ok (.dup2, 1) := by decide +kernel
theorem d_Mo_polynomial_206 : decode prog_7_method_35_code 206 = .ok (.laload, 1) := by decide +kernel
theorem d_Mo_polynomial_207 : decode prog_7_method_35_code 207 = .ok (.iload_n 3, 1) := by decide +kernel
theorem d_Mo_polynomial_208 : decode prog_7_method_35_code 208 = .ok (.iload 5, 2) := by decide +kernel
theorem d_Mo_polynomial_210 : decode prog_7_method_35_code 210 = .ok (.isub, 1) := by decide +kernel
theorem d_Mo_polynomial_211 : decode prog_7_method_35_code 211 = .ok (.iload 4, 2) := by decide +kernel
theorem d_Mo_polynomial_213 : decode prog_7_method_35_code 213 = .ok (.iadd, 1) := by decide +kernel
theorem d_Mo_polynomial_214 : decode prog_7_method_35_code 214 = .ok (.iload 6, 2) := by decide +kernel
theorem d_Mo_polynomial_216 : decode prog_7_method_35_code 216 = .ok (.isub, 1) := by decide +kernel
theorem d_Mo_polynomial_217 : decode prog_7_method_35_code 217 = .ok (.iconst 2, 1) := by decide +kernel
theorem d_Mo_polynomial_218 : decode prog_7_method_35_code 218 = .ok (.irem, 1) := by decide +kernel
theorem d_Mo_polynomial_219 : decode prog_7_method_35_code 219 = .ok (.ifCond .ne 8, 3) := by decide +kernel
theorem d_Mo_polynomial_222 : decode prog_7_method_35_code 222 = .ok (.lload 7, 2) := by decide +kernel
theorem d_Mo_polynomial_224 : decode prog_7_method_35_code 224 = .ok (.goto 6, 3) := by decide +kernel
theorem d_Mo_polynomial_227 : decode prog_7_method_35_code 227 = .ok (.lload 7, 2) := by decide +kernel
theorem d_Mo_polynomial_229 : decode prog_7_method_35_code 229 = .ok (.lneg, 1) := by decide +kernel
theorem d_Mo_polynomial_230 : decode prog_7_method_35_code 230 = .ok (.ladd, 1) := by decide +kernel
theorem d_Mo_polynomial_231 : decode prog_7_method_35_code 231 = .ok (.lastore, 1) := by decide +kernel
theorem d_Mo_polynomial_232 : decode prog_7_method_35_code 232 = .ok (.iinc 6 1, 3) := by decide +kernel
theorem d_Mo_polynomial_235 : decode prog_7_method_35_code 235 = .ok (.goto (-77), 3) := by decide +kernel
theorem d_Mo_polynomial_238 : decode prog_7_method_35_code 238 = .ok (.iinc 5 1, 3) := by decide +kernel
theorem d_Mo_polynomial_241 : decode prog_7_method_35_code 241 = .ok (.goto (-92), 3) := by decide +kernel
theorem d_Mo_polynomial_244 : decode prog_7_method_35_code 244 = .ok (.iinc 2 1, 3) := by decide +kernel
theorem d_Mo_polynomial_247 : decode prog_7_method_35_code 247 = .ok (.goto (-139), 3) := by decide +kernel
theorem d_Mo_polynomial_250 : decode prog_7_method_35_code 250 = .ok (.return_, 1) := by decide +kernel
def f_R_polynomial (m_rankOf_n : Nat) (m_rankOf : Nat → Int32) (m_sizes_n : Nat) (m_sizes : Nat → Int32) (m_ranks_n : Nat) (m_ranks : Nat → Int32) (m_elements_n : Nat) (m_elements : Nat → Int32) (m_coefficients_n : Nat) (m_coefficients : Nat → Int64) (m_choices_n : Nat) (m_choices : Nat → Int64) (k0 : Int32) : Option ((Nat → Int64) × (Nat → Int64)) :=
  ck_jn (fun (w_1 : Nat → Int64) => ck_jn (fun (w_2 : Nat → Int64) => lo2 (fun k_108 (v2_3 : Int32) (w_4 : Nat → Int64) => ck_b1 (f_R_whole m_elements_n m_elements k0) <| fun r_5 => ck_if (r_5 < v2_3) (some (w_4, w_2)) (ck_in k0 m_ranks_n <| ck_b1 (f_R_r m_rankOf_n m_rankOf k0 v2_3) <| fun r_9 => ck_nm ((m_ranks k0.toNatClampNeg) - r_9) <| fun x_11 => ck_in v2_3 m_sizes_n <| ck_b1 (f_R_r m_rankOf_n m_rankOf k0 v2_3) <| fun r_13 => ck_nm ((m_sizes v2_3.toNatClampNeg) - r_13) <| fun x_15 => ck_jn (fun (w_16 : Nat → Int64) => ck_nm (v2_3 + 1) <| fun x_17 => k_108 x_17 w_16) <| fun k_244 => lo2 (fun k_149 (v5_18 : Int32) (w_19 : Nat → Int64) => ck_if (x_11 < v5_18) (k_244 w_19) (ck_jn (fun (w_21 : Nat → Int64) => ck_nm (v5_18 + 1) <| fun x_22 => k_149 x_22 w_21) <| fun k_238 => lo2 (fun k_158 (v6_23 : Int32) (w_24 : Nat → Int64) => ck_if (x_15 < v6_23) (k_238 w_24) (ck_in ((13 * x_11) + v5_18) m_choices_n <| ck_in ((13 * x_15) + v6_23) m_choices_n <| ck_nm ((w_2 ((13 * x_11) + v5_18).toNatClampNeg) * (w_2 ((13 * x_15) + v6_23).toNatClampNeg)) <| fun x_28 => ck_in ((13 * v5_18) + v6_23) m_coefficients_n <| ck_jn (fun (s0_30 : Int64) => ck_in ((13 * v5_18) + v6_23) m_coefficients_n <| ck_nm (v6_23 + 1) <| fun x_32 => k_158 x_32 (vp_updL w_24 ((13 * v5_18) + v6_23).toNatClampNeg ((w_24 ((13 * v5_18) + v6_23).toNatClampNeg) + s0_30))) <| fun k_230 => ck_if (((((x_11 - v5_18) + x_15) - v6_23) - (((x_11 - v5_18) + x_15) - v6_23) / 2 * 2) = 0) (k_230 x_28) (k_230 (-x_28)))) ck_F 0 w_19)) ck_F 0 w_4)) ck_F 0 w_1) <| fun k_106 => lo2 (fun k_24 (v2_34 : Int32) (w_35 : Nat → Int64) => ck_if (13 ≤ v2_34) (k_106 w_35) (ck_jn (fun (w_37 : Nat → Int64) => ck_nm (v2_34 + 1) <| fun x_38 => k_24 x_38 w_37) <| fun k_100 => lo2 (fun k_32 (v3_39 : Int32) (w_40 : Nat → Int64) => ck_if (13 ≤ v3_39) (k_100 w_40) (ck_jn (fun (s0_42 : Int64) => ck_in ((13 * v2_34) + v3_39) m_choices_n <| ck_nm (v3_39 + 1) <| fun x_44 => k_32 x_44 (vp_updL w_40 ((13 * v2_34) + v3_39).toNatClampNeg s0_42)) <| fun k_93 => ck_if (v3_39 = 0) (k_93 1) (ck_if (v2_34 = 0) (k_93 0) (ck_in ((13 * (v2_34 - 1)) + v3_39) m_choices_n <| ck_in (((13 * (v2_34 - 1)) + v3_39) - 1) m_choices_n <| k_93 ((w_40 ((13 * (v2_34 - 1)) + v3_39).toNatClampNeg) + (w_40 (((13 * (v2_34 - 1)) + v3_39) - 1).toNatClampNeg)))))) ck_F 0 w_35)) ck_F 0 m_choices) <| fun k_22 => lo2 (fun k_2 (v2_49 : Int32) (w_50 : Nat → Int64) => ck_if (169 ≤ v2_49) (k_22 w_50) (ck_in v2_49 m_coefficients_n <| ck_nm (v2_49 + 1) <| fun x_53 => k_2 x_53 (vp_updL w_50 v2_49.toNatClampNeg 0))) ck_F 0 m_coefficients
set_option maxHeartbeats 4000000 in
set_option maxRecDepth 100000 in
theorem c_R_polynomial (l : Launch) (dC : Nat → ClassId) (dI : Nat → Nat → Nat) (cI cJ cB cZ cT cN : ClassId) (sz : Nat) (h_m : Nat) (h_m_one : Nat) (h_m_two : Nat) (h_m_three : Nat) (h_m_four : Nat) (h_m_five : Nat) (h_m_six : Nat) (h_m_seven : Nat) (h_m_eight : Nat) (h_m_work : Nat) (h_m_small : Nat) (h_m_pivots : Nat) (h_m_freeRows : Nat) (h_m_freeColumns : Nat) (h_m_minor : Nat) (h_m_smallMinor : Nat) (h_m_fields : Nat) (h_m_rowCounts : Nat) (h_m_elements : Nat) (h_m_numbers : Nat) (h_m_known : Nat) (h_m_ranks : Nat) (h_m_rankOf : Nat) (h_m_signOf : Nat) (h_m_order : Nat) (h_m_sizes : Nat) (h_m_coefficients : Nat) (h_m_choices : Nat) (h_m_sorted : Nat) (m_rows : Int32) (m_columns : Int32) (m_prime : Int32) (m_rankOf_n : Nat) (m_rankOf : Nat → Int32) (m_sizes_n : Nat) (m_sizes : Nat → Int32) (m_ranks_n : Nat) (m_ranks : Nat → Int32) (m_elements_n : Nat) (m_elements : Nat → Int32) (m_coefficients_n : Nat) (m_coefficients : Nat → Int64) (m_choices_n : Nat) (m_choices : Nat → Int64) (k0 : Int32) (r : (Nat → Int64) × (Nat → Int64)) (h : f_R_polynomial m_rankOf_n m_rankOf m_sizes_n m_sizes m_ranks_n m_ranks m_elements_n m_elements m_coefficients_n m_coefficients m_choices_n m_choices k0 = some r) : Met l y_Mo_polynomial w_Mo_polynomial ({ frames := 1, cells := 0, slots := 0, locals := 22 } : Room) (va_Pc [.ref h_m, .int k0] (fun U => U.heap.size = sz ∧ va_P (dC, dI) cl_all [(h_m, .inr (6, [.ref h_m_one, .ref h_m_two, .ref h_m_three, .ref h_m_four, .ref h_m_five, .ref h_m_six, .ref h_m_seven, .ref h_m_eight, .ref h_m_work, .ref h_m_small, .int m_rows, .int m_columns, .int m_prime, .ref h_m_pivots, .ref h_m_freeRows, .ref h_m_freeColumns, .ref h_m_minor, .ref h_m_smallMinor, .ref h_m_fields, .ref h_m_rowCounts, .ref h_m_elements, .ref h_m_numbers, .ref h_m_known, .ref h_m_ranks, .ref h_m_rankOf, .ref h_m_signOf, .ref h_m_order, .ref h_m_sizes, .ref h_m_coefficients, .ref h_m_choices, .ref h_m_sorted])), (h_m_rankOf, .inl (cB, m_rankOf_n, .inl m_rankOf)), (h_m_sizes, .inl (cI, m_sizes_n, .inl m_sizes)), (h_m_ranks, .inl (cI, m_ranks_n, .inl m_ranks)), (h_m_elements, .inl (cI, m_elements_n, .inl m_elements)), (h_m_coefficients, .inl (cJ, m_coefficients_n, .inr (.inl m_coefficients))), (h_m_choices, .inl (cJ, m_choices_n, .inr (.inl m_choices)))] U.heap ∧ va_K (dC, dI) cl_all [(cI, .int), (cJ, .long), (cB, .byte), (cZ, .boolean), (cT, .object "BasisWalk$Table"), (cN, .object "BasisWalkModel$Num")] U ∧ NW U ∧ va_D (fun _ => True) [(h_m, .inr (6, [.ref h_m_one, .ref h_m_two, .ref h_m_three, .ref h_m_four, .ref h_m_five, .ref h_m_six, .ref h_m_seven, .ref h_m_eight, .ref h_m_work, .ref h_m_small, .int m_rows, .int m_columns, .int m_prime, .ref h_m_pivots, .ref h_m_freeRows, .ref h_m_freeColumns, .ref h_m_minor, .ref h_m_smallMinor, .ref h_m_fields, .ref h_m_rowCounts, .ref h_m_elements, .ref h_m_numbers, .ref h_m_known, .ref h_m_ranks, .ref h_m_rankOf, .ref h_m_signOf, .ref h_m_order, .ref h_m_sizes, .ref h_m_coefficients, .ref h_m_choices, .ref h_m_sorted])), (h_m_rankOf, .inl (cB, m_rankOf_n, .inl m_rankOf)), (h_m_sizes, .inl (cI, m_sizes_n, .inl m_sizes)), (h_m_ranks, .inl (cI, m_ranks_n, .inl m_ranks)), (h_m_elements, .inl (cI, m_elements_n, .inl m_elements)), (h_m_coefficients, .inl (cJ, m_coefficients_n, .inr (.inl m_coefficients))), (h_m_choices, .inl (cJ, m_choices_n, .inr (.inl m_choices)))])) (va_Qv (fun u : (Nat → Int64) × (Nat → Int64) => u = r) (fun (u : (Nat → Int64) × (Nat → Int64)) (t : State) => va_P (dC, dI) cl_all [(h_m, .inr (6, [.ref h_m_one, .ref h_m_two, .ref h_m_three, .ref h_m_four, .ref h_m_five, .ref h_m_six, .ref h_m_seven, .ref h_m_eight, .ref h_m_work, .ref h_m_small, .int m_rows, .int m_columns, .int m_prime, .ref h_m_pivots, .ref h_m_freeRows, .ref h_m_freeColumns, .ref h_m_minor, .ref h_m_smallMinor, .ref h_m_fields, .ref h_m_rowCounts, .ref h_m_elements, .ref h_m_numbers, .ref h_m_known, .ref h_m_ranks, .ref h_m_rankOf, .ref h_m_signOf, .ref h_m_order, .ref h_m_sizes, .ref h_m_coefficients, .ref h_m_choices, .ref h_m_sorted])), (h_m_rankOf, .inl (cB, m_rankOf_n, .inl m_rankOf)), (h_m_sizes, .inl (cI, m_sizes_n, .inl m_sizes)), (h_m_ranks, .inl (cI, m_ranks_n, .inl m_ranks)), (h_m_elements, .inl (cI, m_elements_n, .inl m_elements)), (h_m_coefficients, .inl (cJ, m_coefficients_n, .inr (.inl u.1))), (h_m_choices, .inl (cJ, m_choices_n, .inr (.inl u.2)))] t.heap ∧ va_K (dC, dI) cl_all [(cI, .int), (cJ, .long), (cB, .byte), (cZ, .boolean), (cT, .object "BasisWalk$Table"), (cN, .object "BasisWalkModel$Num")] t ∧ va_D (va_A [(h_m, .inr (6, [.ref h_m_one, .ref h_m_two, .ref h_m_three, .ref h_m_four, .ref h_m_five, .ref h_m_six, .ref h_m_seven, .ref h_m_eight, .ref h_m_work, .ref h_m_small, .int m_rows, .int m_columns, .int m_prime, .ref h_m_pivots, .ref h_m_freeRows, .ref h_m_freeColumns, .ref h_m_minor, .ref h_m_smallMinor, .ref h_m_fields, .ref h_m_rowCounts, .ref h_m_elements, .ref h_m_numbers, .ref h_m_known, .ref h_m_ranks, .ref h_m_rankOf, .ref h_m_signOf, .ref h_m_order, .ref h_m_sizes, .ref h_m_coefficients, .ref h_m_choices, .ref h_m_sorted])), (h_m_rankOf, .inl (cB, m_rankOf_n, .inl m_rankOf)), (h_m_sizes, .inl (cI, m_sizes_n, .inl m_sizes)), (h_m_ranks, .inl (cI, m_ranks_n, .inl m_ranks)), (h_m_elements, .inl (cI, m_elements_n, .inl m_elements)), (h_m_coefficients, .inl (cJ, m_coefficients_n, .inr (.inl m_coefficients))), (h_m_choices, .inl (cJ, m_choices_n, .inr (.inl m_choices)))] sz) [(h_m, .inr (6, [.ref h_m_one, .ref h_m_two, .ref h_m_three, .ref h_m_four, .ref h_m_five, .ref h_m_six, .ref h_m_seven, .ref h_m_eight, .ref h_m_work, .ref h_m_small, .int m_rows, .int m_columns, .int m_prime, .ref h_m_pivots, .ref h_m_freeRows, .ref h_m_freeColumns, .ref h_m_minor, .ref h_m_smallMinor, .ref h_m_fields, .ref h_m_rowCounts, .ref h_m_elements, .ref h_m_numbers, .ref h_m_known, .ref h_m_ranks, .ref h_m_rankOf, .ref h_m_signOf, .ref h_m_order, .ref h_m_sizes, .ref h_m_coefficients, .ref h_m_choices, .ref h_m_sorted])), (h_m_rankOf, .inl (cB, m_rankOf_n, .inl m_rankOf)), (h_m_sizes, .inl (cI, m_sizes_n, .inl m_sizes)), (h_m_ranks, .inl (cI, m_ranks_n, .inl m_ranks)), (h_m_elements, .inl (cI, m_elements_n, .inl m_elements)), (h_m_coefficients, .inl (cJ, m_coefficients_n, .inr (.inl u.1))), (h_m_choices, .inl (cJ, m_choices_n, .inr (.inl u.2)))]) (va_A [(h_m, .inr (6, [.ref h_m_one, .ref h_m_two, .ref h_m_three, .ref h_m_four, .ref h_m_five, .ref h_m_six, .ref h_m_seven, .ref h_m_eight, .ref h_m_work, .ref h_m_small, .int m_rows, .int m_columns, .int m_prime, .ref h_m_pivots, .ref h_m_freeRows, .ref h_m_freeColumns, .ref h_m_minor, .ref h_m_smallMinor, .ref h_m_fields, .ref h_m_rowCounts, .ref h_m_elements, .ref h_m_numbers, .ref h_m_known, .ref h_m_ranks, .ref h_m_rankOf, .ref h_m_signOf, .ref h_m_order, .ref h_m_sizes, .ref h_m_coefficients, .ref h_m_choices, .ref h_m_sorted])), (h_m_rankOf, .inl (cB, m_rankOf_n, .inl m_rankOf)), (h_m_sizes, .inl (cI, m_sizes_n, .inl m_sizes)), (h_m_ranks, .inl (cI, m_ranks_n, .inl m_ranks)), (h_m_elements, .inl (cI, m_elements_n, .inl m_elements)), (h_m_coefficients, .inl (cJ, m_coefficients_n, .inr (.inl m_coefficients))), (h_m_choices, .inl (cJ, m_choices_n, .inr (.inl m_choices)))] sz)) 0 0 (va_A [(h_m, .inr (6, [.ref h_m_one, .ref h_m_two, .ref h_m_three, .ref h_m_four, .ref h_m_five, .ref h_m_six, .ref h_m_seven, .ref h_m_eight, .ref h_m_work, .ref h_m_small, .int m_rows, .int m_columns, .int m_prime, .ref h_m_pivots, .ref h_m_freeRows, .ref h_m_freeColumns, .ref h_m_minor, .ref h_m_smallMinor, .ref h_m_fields, .ref h_m_rowCounts, .ref h_m_elements, .ref h_m_numbers, .ref h_m_known, .ref h_m_ranks, .ref h_m_rankOf, .ref h_m_signOf, .ref h_m_order, .ref h_m_sizes, .ref h_m_coefficients, .ref h_m_choices, .ref h_m_sorted])), (h_m_rankOf, .inl (cB, m_rankOf_n, .inl m_rankOf)), (h_m_sizes, .inl (cI, m_sizes_n, .inl m_sizes)), (h_m_ranks, .inl (cI, m_ranks_n, .inl m_ranks)), (h_m_elements, .inl (cI, m_elements_n, .inl m_elements)), (h_m_coefficients, .inl (cJ, m_coefficients_n, .inr (.inl m_coefficients))), (h_m_choices, .inl (cJ, m_choices_n, .inr (.inl m_choices)))] sz) := by
  refine Met.ofW (cc := prog_7_method_35_code) (maxL := 9) (ret := (Option.none : Option Jvm.ClassFile.FieldType)) (by decide) rfl ?_
  intro p e s m args below meth c s₁ B hml hv
  obtain ⟨hAR, hsz, hP, hK, hN, hD0⟩ := hv
  have hx := B.exec
  have hb := B.bytes
  have hr := B.returns
  have hts := atoms_spec (ws := w_Mo_polynomial) B.pre
  have hown : s.vm.findClass "BasisWalkModel" = some m.cls := findClass_of_methodNamed B.named
  have hlocks := B.notSynchronized
  clear B
  subst hsz
  have hD := hD0.self (sz := s.heap.size)
  generalize hAe : va_A [(h_m, .inr (6, [.ref h_m_one, .ref h_m_two, .ref h_m_three, .ref h_m_four, .ref h_m_five, .ref h_m_six, .ref h_m_seven, .ref h_m_eight, .ref h_m_work, .ref h_m_small, .int m_rows, .int m_columns, .int m_prime, .ref h_m_pivots, .ref h_m_freeRows, .ref h_m_freeColumns, .ref h_m_minor, .ref h_m_smallMinor, .ref h_m_fields, .ref h_m_rowCounts, .ref h_m_elements, .ref h_m_numbers, .ref h_m_known, .ref h_m_ranks, .ref h_m_rankOf, .ref h_m_signOf, .ref h_m_order, .ref h_m_sizes, .ref h_m_coefficients, .ref h_m_choices, .ref h_m_sorted])), (h_m_rankOf, .inl (cB, m_rankOf_n, .inl m_rankOf)), (h_m_sizes, .inl (cI, m_sizes_n, .inl m_sizes)), (h_m_ranks, .inl (cI, m_ranks_n, .inl m_ranks)), (h_m_elements, .inl (cI, m_elements_n, .inl m_elements)), (h_m_coefficients, .inl (cJ, m_coefficients_n, .inr (.inl m_coefficients))), (h_m_choices, .inl (cJ, m_choices_n, .inr (.inl m_choices)))] s.heap.size = A at hD ⊢
  have hA : ∀ q : Nat, s.heap.size ≤ q → A q := fun q h => by rw [← hAe]; exact Or.inr h
  clear hAe hD0
  have hS : va_S A s.heap s.heap [] := va_S.rf
  have hl := lv_entry ([.ref h_m, .int k0]) (n := 9) (Nat.le_of_ble_eq_true rfl)
  subst hAR
  rw [lg_entry_eq]
  generalize (lg_sl ([.ref h_m, .int k0]) ++ List.replicate (9 - (lg_sl ([.ref h_m, .int k0])).length) Slot.unset).toArray = ls at hl ⊢
  have hl : lv_has ls 9 [(0, .ref h_m), (1, .int k0)] := hl
  change W p l e ({ frames := 1, cells := 0, slots := 0, locals := 22 } : Room) s m _ below meth c s.heap [] 0 0 _ _
  generalize hARe : ([.ref h_m, .int k0] : List Value).toArray = AR at hts ⊢
  clear hARe
  generalize hQ : MQ below _ AR s 0 0 A = QQ
  have fl0 := hts _ (List.mem_cons_of_mem _ tw_378)
  have iw1 := (fun w hw => List.mem_cons_of_mem _ (in_Mo w hw) : ∀ w ∈ u_ws "BasisWalkModel" T_Mo 31, w ∈ w_Mo_polynomial)
  have fl2 := hts _ (List.mem_cons_of_mem _ tw_382)
  have fl3 := hts _ (List.mem_cons_of_mem _ tw_384)
  have fl4 := hts _ (List.mem_cons_of_mem _ tw_383)
  obtain ⟨H, hHe⟩ : ∃ H : Heap, H = s.heap := ⟨_, rfl⟩
  rw [← hHe] at hP ⊢
  replace hS : va_S A s.heap H [] := by rw [hHe]; exact va_S.rf
  clear hHe
  unfold f_R_polynomial at h
  refine lv_iconst (v := 0) hx hb d_Mo_polynomial_0 (by decide) ?_
  refine lv_istore_n (lv' := [(2, .int 0), (0, .ref h_m), (1, .int k0)]) hx hb d_Mo_polynomial_1 rfl hl (by decide) rfl (fun ls hl => ?_)
  refine ck_jn_W h (fun k' => ∀ (w_1 : Nat → Int64), k' w_1 = some r → ∀ (H : Heap) (locs : List Loc), va_P (dC, dI) cl_all [(h_m, .inr (6, [.ref h_m_one, .ref h_m_two, .ref h_m_three, .ref h_m_four, .ref h_m_five, .ref h_m_six, .ref h_m_seven, .ref h_m_eight, .ref h_m_work, .ref h_m_small, .int m_rows, .int m_columns, .int m_prime, .ref h_m_pivots, .ref h_m_freeRows, .ref h_m_freeColumns, .ref h_m_minor, .ref h_m_smallMinor, .ref h_m_fields, .ref h_m_rowCounts, .ref h_m_elements, .ref h_m_numbers, .ref h_m_known, .ref h_m_ranks, .ref h_m_rankOf, .ref h_m_signOf, .ref h_m_order, .ref h_m_sizes, .ref h_m_coefficients, .ref h_m_choices, .ref h_m_sorted])), (h_m_rankOf, .inl (cB, m_rankOf_n, .inl m_rankOf)), (h_m_sizes, .inl (cI, m_sizes_n, .inl m_sizes)), (h_m_ranks, .inl (cI, m_ranks_n, .inl m_ranks)), (h_m_elements, .inl (cI, m_elements_n, .inl m_elements)), (h_m_coefficients, .inl (cJ, m_coefficients_n, .inr (.inl w_1))), (h_m_choices, .inl (cJ, m_choices_n, .inr (.inl m_choices)))] H → va_D A [(h_m, .inr (6, [.ref h_m_one, .ref h_m_two, .ref h_m_three, .ref h_m_four, .ref h_m_five, .ref h_m_six, .ref h_m_seven, .ref h_m_eight, .ref h_m_work, .ref h_m_small, .int m_rows, .int m_columns, .int m_prime, .ref h_m_pivots, .ref h_m_freeRows, .ref h_m_freeColumns, .ref h_m_minor, .ref h_m_smallMinor, .ref h_m_fields, .ref h_m_rowCounts, .ref h_m_elements, .ref h_m_numbers, .ref h_m_known, .ref h_m_ranks, .ref h_m_rankOf, .ref h_m_signOf, .ref h_m_order, .ref h_m_sizes, .ref h_m_coefficients, .ref h_m_choices, .ref h_m_sorted])), (h_m_rankOf, .inl (cB, m_rankOf_n, .inl m_rankOf)), (h_m_sizes, .inl (cI, m_sizes_n, .inl m_sizes)), (h_m_ranks, .inl (cI, m_ranks_n, .inl m_ranks)), (h_m_elements, .inl (cI, m_elements_n, .inl m_elements)), (h_m_coefficients, .inl (cJ, m_coefficients_n, .inr (.inl w_1))), (h_m_choices, .inl (cJ, m_choices_n, .inr (.inl m_choices)))] → va_S A s.heap H locs → ∀ ls : Array Slot, lv_has ls 9 [(0, .ref h_m), (1, .int k0)] → W p l e ({ frames := 1, cells := 0, slots := 0, locals := 22 } : Room) s m AR below meth c H locs 0 0 QQ (F0 m 22 ls [])) ?_ ?_
  · intro w_1 h H locs hP hD hS ls hl
    refine lv_iconst (v := 0) hx hb d_Mo_polynomial_22 (by decide) ?_
    refine lv_istore_n (lv' := [(2, .int 0), (0, .ref h_m), (1, .int k0)]) hx hb d_Mo_polynomial_23 rfl hl (by decide) rfl (fun ls hl => ?_)
    refine ck_jn_W h (fun k' => ∀ (w_2 : Nat → Int64), k' w_2 = some r → ∀ (H : Heap) (locs : List Loc), va_P (dC, dI) cl_all [(h_m, .inr (6, [.ref h_m_one, .ref h_m_two, .ref h_m_three, .ref h_m_four, .ref h_m_five, .ref h_m_six, .ref h_m_seven, .ref h_m_eight, .ref h_m_work, .ref h_m_small, .int m_rows, .int m_columns, .int m_prime, .ref h_m_pivots, .ref h_m_freeRows, .ref h_m_freeColumns, .ref h_m_minor, .ref h_m_smallMinor, .ref h_m_fields, .ref h_m_rowCounts, .ref h_m_elements, .ref h_m_numbers, .ref h_m_known, .ref h_m_ranks, .ref h_m_rankOf, .ref h_m_signOf, .ref h_m_order, .ref h_m_sizes, .ref h_m_coefficients, .ref h_m_choices, .ref h_m_sorted])), (h_m_rankOf, .inl (cB, m_rankOf_n, .inl m_rankOf)), (h_m_sizes, .inl (cI, m_sizes_n, .inl m_sizes)), (h_m_ranks, .inl (cI, m_ranks_n, .inl m_ranks)), (h_m_elements, .inl (cI, m_elements_n, .inl m_elements)), (h_m_coefficients, .inl (cJ, m_coefficients_n, .inr (.inl w_1))), (h_m_choices, .inl (cJ, m_choices_n, .inr (.inl w_2)))] H → va_D A [(h_m, .inr (6, [.ref h_m_one, .ref h_m_two, .ref h_m_three, .ref h_m_four, .ref h_m_five, .ref h_m_six, .ref h_m_seven, .ref h_m_eight, .ref h_m_work, .ref h_m_small, .int m_rows, .int m_columns, .int m_prime, .ref h_m_pivots, .ref h_m_freeRows, .ref h_m_freeColumns, .ref h_m_minor, .ref h_m_smallMinor, .ref h_m_fields, .ref h_m_rowCounts, .ref h_m_elements, .ref h_m_numbers, .ref h_m_known, .ref h_m_ranks, .ref h_m_rankOf, .ref h_m_signOf, .ref h_m_order, .ref h_m_sizes, .ref h_m_coefficients, .ref h_m_choices, .ref h_m_sorted])), (h_m_rankOf, .inl (cB, m_rankOf_n, .inl m_rankOf)), (h_m_sizes, .inl (cI, m_sizes_n, .inl m_sizes)), (h_m_ranks, .inl (cI, m_ranks_n, .inl m_ranks)), (h_m_elements, .inl (cI, m_elements_n, .inl m_elements)), (h_m_coefficients, .inl (cJ, m_coefficients_n, .inr (.inl w_1))), (h_m_choices, .inl (cJ, m_choices_n, .inr (.inl w_2)))] → va_S A s.heap H locs → ∀ ls : Array Slot, lv_has ls 9 [(0, .ref h_m), (1, .int k0)] → W p l e ({ frames := 1, cells := 0, slots := 0, locals := 22 } : Room) s m AR below meth c H locs 0 0 QQ (F0 m 106 ls [])) ?_ ?_
    · intro w_2 h H locs hP hD hS ls hl
      refine lv_iconst (v := 0) hx hb d_Mo_polynomial_106 (by decide) ?_
      refine lv_istore_n (lv' := [(2, .int 0), (0, .ref h_m), (1, .int k0)]) hx hb d_Mo_polynomial_107 rfl hl (by decide) rfl (fun ls hl => ?_)
      refine lo2_W (r := r) (fun (v2_3 : Int32) (w_4 : Nat → Int64) => ∀ (H : Heap) (locs : List Loc), va_P (dC, dI) cl_all [(h_m, .inr (6, [.ref h_m_one, .ref h_m_two, .ref h_m_three, .ref h_m_four, .ref h_m_five, .ref h_m_six, .ref h_m_seven, .ref h_m_eight, .ref h_m_work, .ref h_m_small, .int m_rows, .int m_columns, .int m_prime, .ref h_m_pivots, .ref h_m_freeRows, .ref h_m_freeColumns, .ref h_m_minor, .ref h_m_smallMinor, .ref h_m_fields, .ref h_m_rowCounts, .ref h_m_elements, .ref h_m_numbers, .ref h_m_known, .ref h_m_ranks, .ref h_m_rankOf, .ref h_m_signOf, .ref h_m_order, .ref h_m_sizes, .ref h_m_coefficients, .ref h_m_choices, .ref h_m_sorted])), (h_m_rankOf, .inl (cB, m_rankOf_n, .inl m_rankOf)), (h_m_sizes, .inl (cI, m_sizes_n, .inl m_sizes)), (h_m_ranks, .inl (cI, m_ranks_n, .inl m_ranks)), (h_m_elements, .inl (cI, m_elements_n, .inl m_elements)), (h_m_coefficients, .inl (cJ, m_coefficients_n, .inr (.inl w_4))), (h_m_choices, .inl (cJ, m_choices_n, .inr (.inl w_2)))] H → va_D A [(h_m, .inr (6, [.ref h_m_one, .ref h_m_two, .ref h_m_three, .ref h_m_four, .ref h_m_five, .ref h_m_six, .ref h_m_seven, .ref h_m_eight, .ref h_m_work, .ref h_m_small, .int m_rows, .int m_columns, .int m_prime, .ref h_m_pivots, .ref h_m_freeRows, .ref h_m_freeColumns, .ref h_m_minor, .ref h_m_smallMinor, .ref h_m_fields, .ref h_m_rowCounts, .ref h_m_elements, .ref h_m_numbers, .ref h_m_known, .ref h_m_ranks, .ref h_m_rankOf, .ref h_m_signOf, .ref h_m_order, .ref h_m_sizes, .ref h_m_coefficients, .ref h_m_choices, .ref h_m_sorted])), (h_m_rankOf, .inl (cB, m_rankOf_n, .inl m_rankOf)), (h_m_sizes, .inl (cI, m_sizes_n, .inl m_sizes)), (h_m_ranks, .inl (cI, m_ranks_n, .inl m_ranks)), (h_m_elements, .inl (cI, m_elements_n, .inl m_elements)), (h_m_coefficients, .inl (cJ, m_coefficients_n, .inr (.inl w_4))), (h_m_choices, .inl (cJ, m_choices_n, .inr (.inl w_2)))] → va_S A s.heap H locs → ∀ ls : Array Slot, lv_has ls 9 [(0, .ref h_m), (1, .int k0), (2, .int v2_3)] → W p l e ({ frames := 1, cells := 0, slots := 0, locals := 22 } : Room) s m AR below meth c H locs 0 0 QQ (F0 m 108 ls [])) ?_ _ _ _ h _ _ hP hD hS _ (lv_sub hl [1, 2, 0] rfl)
      intro k_108 v2_3 w_4 J_108 h H locs hP hD hS ls hl
      refine lv_iload_n hx hb d_Mo_polynomial_108 rfl (lv_at hl 2 rfl) ?_
      refine lv_aload_n hx hb d_Mo_polynomial_109 rfl (lv_at hl 0 rfl) ?_
      refine lv_iload_n hx hb d_Mo_polynomial_110 rfl (lv_at hl 1 rfl) ?_
      obtain ⟨r_5, hc_6, h⟩ := ck_b1_s h
      have hPc := hP.sub (ws' := [(h_m, .inr (6, [.ref h_m_one, .ref h_m_two, .ref h_m_three, .ref h_m_four, .ref h_m_five, .ref h_m_six, .ref h_m_seven, .ref h_m_eight, .ref h_m_work, .ref h_m_small, .int m_rows, .int m_columns, .int m_prime, .ref h_m_pivots, .ref h_m_freeRows, .ref h_m_freeColumns, .ref h_m_minor, .ref h_m_smallMinor, .ref h_m_fields, .ref h_m_rowCounts, .ref h_m_elements, .ref h_m_numbers, .ref h_m_known, .ref h_m_ranks, .ref h_m_rankOf, .ref h_m_signOf, .ref h_m_order, .ref h_m_sizes, .ref h_m_coefficients, .ref h_m_choices, .ref h_m_sorted])), (h_m_elements, .inl (cI, m_elements_n, .inl m_elements))]) [0, 4] rfl
      have hDc := hD.sub (ws' := [(h_m, .inr (6, [.ref h_m_one, .ref h_m_two, .ref h_m_three, .ref h_m_four, .ref h_m_five, .ref h_m_six, .ref h_m_seven, .ref h_m_eight, .ref h_m_work, .ref h_m_small, .int m_rows, .int m_columns, .int m_prime, .ref h_m_pivots, .ref h_m_freeRows, .ref h_m_freeColumns, .ref h_m_minor, .ref h_m_smallMinor, .ref h_m_fields, .ref h_m_rowCounts, .ref h_m_elements, .ref h_m_numbers, .ref h_m_known, .ref h_m_ranks, .ref h_m_rankOf, .ref h_m_signOf, .ref h_m_order, .ref h_m_sizes, .ref h_m_coefficients, .ref h_m_choices, .ref h_m_sorted])), (h_m_elements, .inl (cI, m_elements_n, .inl m_elements))]) [0, 4] (by decide) rfl
      have hFc := va_free (wc := [(h_m, .inr (6, [.ref h_m_one, .ref h_m_two, .ref h_m_three, .ref h_m_four, .ref h_m_five, .ref h_m_six, .ref h_m_seven, .ref h_m_eight, .ref h_m_work, .ref h_m_small, .int m_rows, .int m_columns, .int m_prime, .ref h_m_pivots, .ref h_m_freeRows, .ref h_m_freeColumns, .ref h_m_minor, .ref h_m_smallMinor, .ref h_m_fields, .ref h_m_rowCounts, .ref h_m_elements, .ref h_m_numbers, .ref h_m_known, .ref h_m_ranks, .ref h_m_rankOf, .ref h_m_signOf, .ref h_m_order, .ref h_m_sizes, .ref h_m_coefficients, .ref h_m_choices, .ref h_m_sorted])), (h_m_elements, .inl (cI, m_elements_n, .inl m_elements))]) hD hS hA [0, 4] rfl
      refine va_calli (va_runV (As := [.int k0]) (rest := [.int v2_3]) ⟨hx, hb, hml, hown, hts⟩ (c_R_whole l dC dI cI cJ cB cZ cT cN H.size h_m h_m_one h_m_two h_m_three h_m_four h_m_five h_m_six h_m_seven h_m_eight h_m_work h_m_small h_m_pivots h_m_freeRows h_m_freeColumns h_m_minor h_m_smallMinor h_m_fields h_m_rowCounts h_m_elements h_m_numbers h_m_known h_m_ranks h_m_rankOf h_m_signOf h_m_order h_m_sizes h_m_coefficients h_m_choices h_m_sorted m_rows m_columns m_prime m_elements_n m_elements k0 _ hc_6) (cwV 1 hts (tb_V tw_598 tw_600 tp_34 tw_6 tw_601) rfl rfl rfl (by decide +kernel) ⟨Nat.le_of_ble_eq_true rfl, Nat.le_of_ble_eq_true rfl⟩) ⟨fun a U g mk q => by obtain ⟨q0, q1, qP, qK, qN, qD⟩ := q; exact ⟨q0, q1, qP, va_K.moved (u := U) (U := U.calling g mk a) (Vm.Alike.refl U.vm) qK, qN.same rfl, qD⟩, va_recv hK hPc (ci := 6) (q0 := 0) rfl rfl, fun U hU hW => ⟨rfl, by rw [hU], by rw [hU]; exact hPc, va_K.moved hW.alike hK, hN.warm hW, hDc.weaken (fun _ _ _ _ => trivial)⟩⟩ rfl rfl hl.1 rfl (lv_room (Nat.le_of_ble_eq_true rfl)) d_Mo_polynomial_111 ⟨Nat.zero_le _, Nat.zero_le _⟩) hS (fun q _ h => hFc q h) hFc (fun rr u t H1 locs ht hvm hw hB hz1 hk1 hS => ?_)
      replace hw := hw.symm
      subst hw
      obtain ⟨hP1, -, hD1⟩ := hB
      rw [ht] at hP1
      obtain ⟨hP, hD⟩ := va_join (wr := [(h_m_rankOf, .inl (cB, m_rankOf_n, .inl m_rankOf)), (h_m_sizes, .inl (cI, m_sizes_n, .inl m_sizes)), (h_m_ranks, .inl (cI, m_ranks_n, .inl m_ranks)), (h_m_coefficients, .inl (cJ, m_coefficients_n, .inr (.inl w_4))), (h_m_choices, .inl (cJ, m_choices_n, .inr (.inl w_2)))]) (w1 := [(h_m, .inr (6, [.ref h_m_one, .ref h_m_two, .ref h_m_three, .ref h_m_four, .ref h_m_five, .ref h_m_six, .ref h_m_seven, .ref h_m_eight, .ref h_m_work, .ref h_m_small, .int m_rows, .int m_columns, .int m_prime, .ref h_m_pivots, .ref h_m_freeRows, .ref h_m_freeColumns, .ref h_m_minor, .ref h_m_smallMinor, .ref h_m_fields, .ref h_m_rowCounts, .ref h_m_elements, .ref h_m_numbers, .ref h_m_known, .ref h_m_ranks, .ref h_m_rankOf, .ref h_m_signOf, .ref h_m_order, .ref h_m_sizes, .ref h_m_coefficients, .ref h_m_choices, .ref h_m_sorted])), (h_m_elements, .inl (cI, m_elements_n, .inl m_elements))]) hP hD [0, 4] [1, 2, 3, 5, 6] rfl rfl (by decide) (by decide) hk1 hFc hP1 hD1
      generalize H1 = H at hP hS ⊢
      have hP : va_P (dC, dI) cl_all [(h_m, .inr (6, [.ref h_m_one, .ref h_m_two, .ref h_m_three, .ref h_m_four, .ref h_m_five, .ref h_m_six, .ref h_m_seven, .ref h_m_eight, .ref h_m_work, .ref h_m_small, .int m_rows, .int m_columns, .int m_prime, .ref h_m_pivots, .ref h_m_freeRows, .ref h_m_freeColumns, .ref h_m_minor, .ref h_m_smallMinor, .ref h_m_fields, .ref h_m_rowCounts, .ref h_m_elements, .ref h_m_numbers, .ref h_m_known, .ref h_m_ranks, .ref h_m_rankOf, .ref h_m_signOf, .ref h_m_order, .ref h_m_sizes, .ref h_m_coefficients, .ref h_m_choices, .ref h_m_sorted])), (h_m_rankOf, .inl (cB, m_rankOf_n, .inl m_rankOf)), (h_m_sizes, .inl (cI, m_sizes_n, .inl m_sizes)), (h_m_ranks, .inl (cI, m_ranks_n, .inl m_ranks)), (h_m_elements, .inl (cI, m_elements_n, .inl m_elements)), (h_m_coefficients, .inl (cJ, m_coefficients_n, .inr (.inl w_4))), (h_m_choices, .inl (cJ, m_choices_n, .inr (.inl w_2)))] H := hP.sub [5, 0, 1, 2, 6, 3, 4] rfl
      have hD : va_D A [(h_m, .inr (6, [.ref h_m_one, .ref h_m_two, .ref h_m_three, .ref h_m_four, .ref h_m_five, .ref h_m_six, .ref h_m_seven, .ref h_m_eight, .ref h_m_work, .ref h_m_small, .int m_rows, .int m_columns, .int m_prime, .ref h_m_pivots, .ref h_m_freeRows, .ref h_m_freeColumns, .ref h_m_minor, .ref h_m_smallMinor, .ref h_m_fields, .ref h_m_rowCounts, .ref h_m_elements, .ref h_m_numbers, .ref h_m_known, .ref h_m_ranks, .ref h_m_rankOf, .ref h_m_signOf, .ref h_m_order, .ref h_m_sizes, .ref h_m_coefficients, .ref h_m_choices, .ref h_m_sorted])), (h_m_rankOf, .inl (cB, m_rankOf_n, .inl m_rankOf)), (h_m_sizes, .inl (cI, m_sizes_n, .inl m_sizes)), (h_m_ranks, .inl (cI, m_ranks_n, .inl m_ranks)), (h_m_elements, .inl (cI, m_elements_n, .inl m_elements)), (h_m_coefficients, .inl (cJ, m_coefficients_n, .inr (.inl w_4))), (h_m_choices, .inl (cJ, m_choices_n, .inr (.inl w_2)))] := hD.sub [5, 0, 1, 2, 6, 3, 4] (by decide) rfl
      refine lv_icmp_gt (tgt := 250) hx hb d_Mo_polynomial_114 (by decide) (fun c_7 => ?_) (fun c_7 => ?_)
      · replace h := ck_if_t h c_7
        obtain rfl := Option.some.inj h
        subst hQ
        exact W.vret hx hb hr (fun t ht hW => ⟨⟨(w_4, w_2), rfl, rfl, by rw [ht]; exact hP, va_K.moved hW.alike hK, hD⟩, hS.F ht⟩) hS.2.2 d_Mo_polynomial_250
      · replace h := ck_if_f h c_7
        refine lv_aload_n hx hb d_Mo_polynomial_117 rfl (lv_at hl 0 rfl) ?_
        refine va_get (D := (dC, dI)) (ci := 6) (v := .ref h_m_ranks) (C := "BasisWalkModel") (T := T_Mo) (N := 31) hx hb hts iw1 hown hK hP 0 rfl rfl 23 (by decide) fl0 (fun _ h9 => h9) rfl d_Mo_polynomial_118 ?_
        refine lv_iload_n hx hb d_Mo_polynomial_121 rfl (lv_at hl 1 rfl) ?_
        obtain ⟨g_8, h⟩ := ck_in_s h
        refine va_iald hx hb hK hP 3 0 rfl rfl g_8 d_Mo_polynomial_122 ?_
        refine lv_aload_n hx hb d_Mo_polynomial_123 rfl (lv_at hl 0 rfl) ?_
        refine lv_iload_n hx hb d_Mo_polynomial_124 rfl (lv_at hl 1 rfl) ?_
        refine lv_iload_n hx hb d_Mo_polynomial_125 rfl (lv_at hl 2 rfl) ?_
        obtain ⟨r_9, hc_10, h⟩ := ck_b1_s h
        have hPc := hP.sub (ws' := [(h_m, .inr (6, [.ref h_m_one, .ref h_m_two, .ref h_m_three, .ref h_m_four, .ref h_m_five, .ref h_m_six, .ref h_m_seven, .ref h_m_eight, .ref h_m_work, .ref h_m_small, .int m_rows, .int m_columns, .int m_prime, .ref h_m_pivots, .ref h_m_freeRows, .ref h_m_freeColumns, .ref h_m_minor, .ref h_m_smallMinor, .ref h_m_fields, .ref h_m_rowCounts, .ref h_m_elements, .ref h_m_numbers, .ref h_m_known, .ref h_m_ranks, .ref h_m_rankOf, .ref h_m_signOf, .ref h_m_order, .ref h_m_sizes, .ref h_m_coefficients, .ref h_m_choices, .ref h_m_sorted])), (h_m_rankOf, .inl (cB, m_rankOf_n, .inl m_rankOf))]) [0, 1] rfl
        have hDc := hD.sub (ws' := [(h_m, .inr (6, [.ref h_m_one, .ref h_m_two, .ref h_m_three, .ref h_m_four, .ref h_m_five, .ref h_m_six, .ref h_m_seven, .ref h_m_eight, .ref h_m_work, .ref h_m_small, .int m_rows, .int m_columns, .int m_prime, .ref h_m_pivots, .ref h_m_freeRows, .ref h_m_freeColumns, .ref h_m_minor, .ref h_m_smallMinor, .ref h_m_fields, .ref h_m_rowCounts, .ref h_m_elements, .ref h_m_numbers, .ref h_m_known, .ref h_m_ranks, .ref h_m_rankOf, .ref h_m_signOf, .ref h_m_order, .ref h_m_sizes, .ref h_m_coefficients, .ref h_m_choices, .ref h_m_sorted])), (h_m_rankOf, .inl (cB, m_rankOf_n, .inl m_rankOf))]) [0, 1] (by decide) rfl
        have hFc := va_free (wc := [(h_m, .inr (6, [.ref h_m_one, .ref h_m_two, .ref h_m_three, .ref h_m_four, .ref h_m_five, .ref h_m_six, .ref h_m_seven, .ref h_m_eight, .ref h_m_work, .ref h_m_small, .int m_rows, .int m_columns, .int m_prime, .ref h_m_pivots, .ref h_m_freeRows, .ref h_m_freeColumns, .ref h_m_minor, .ref h_m_smallMinor, .ref h_m_fields, .ref h_m_rowCounts, .ref h_m_elements, .ref h_m_numbers, .ref h_m_known, .ref h_m_ranks, .ref h_m_rankOf, .ref h_m_signOf, .ref h_m_order, .ref h_m_sizes, .ref h_m_coefficients, .ref h_m_choices, .ref h_m_sorted])), (h_m_rankOf, .inl (cB, m_rankOf_n, .inl m_rankOf))]) hD hS hA [0, 1] rfl
        refine va_calli (va_runV (As := [.int k0, .int v2_3]) (rest := [.int (m_ranks k0.toNatClampNeg)]) ⟨hx, hb, hml, hown, hts⟩ (c_R_r l dC dI cI cJ cB cZ cT cN H.size h_m h_m_one h_m_two h_m_three h_m_four h_m_five h_m_six h_m_seven h_m_eight h_m_work h_m_small h_m_pivots h_m_freeRows h_m_freeColumns h_m_minor h_m_smallMinor h_m_fields h_m_rowCounts h_m_elements h_m_numbers h_m_known h_m_ranks h_m_rankOf h_m_signOf h_m_order h_m_sizes h_m_coefficients h_m_choices h_m_sorted m_rows m_columns m_prime m_rankOf_n m_rankOf k0 v2_3 _ hc_10) (cwV 2 hts (tb_V tw_602 tw_604 tp_35 tw_6 tw_605) rfl rfl rfl (by decide +kernel) ⟨Nat.le_of_ble_eq_true rfl, Nat.le_of_ble_eq_true rfl⟩) ⟨fun a U g mk q => by obtain ⟨q0, q1, qP, qK, qN, qD⟩ := q; exact ⟨q0, q1, qP, va_K.moved (u := U) (U := U.calling g mk a) (Vm.Alike.refl U.vm) qK, qN.same rfl, qD⟩, va_recv hK hPc (ci := 6) (q0 := 0) rfl rfl, fun U hU hW => ⟨rfl, by rw [hU], by rw [hU]; exact hPc, va_K.moved hW.alike hK, hN.warm hW, hDc.weaken (fun _ _ _ _ => trivial)⟩⟩ rfl rfl hl.1 rfl (lv_room (Nat.le_of_ble_eq_true rfl)) d_Mo_polynomial_126 ⟨Nat.zero_le _, Nat.zero_le _⟩) hS (fun q _ h => hFc q h) hFc (fun rr u t H1 locs ht hvm hw hB hz1 hk1 hS => ?_)
        replace hw := hw.symm
        subst hw
        obtain ⟨hP1, -, hD1⟩ := hB
        rw [ht] at hP1
        obtain ⟨hP, hD⟩ := va_join (wr := [(h_m_sizes, .inl (cI, m_sizes_n, .inl m_sizes)), (h_m_ranks, .inl (cI, m_ranks_n, .inl m_ranks)), (h_m_elements, .inl (cI, m_elements_n, .inl m_elements)), (h_m_coefficients, .inl (cJ, m_coefficients_n, .inr (.inl w_4))), (h_m_choices, .inl (cJ, m_choices_n, .inr (.inl w_2)))]) (w1 := [(h_m, .inr (6, [.ref h_m_one, .ref h_m_two, .ref h_m_three, .ref h_m_four, .ref h_m_five, .ref h_m_six, .ref h_m_seven, .ref h_m_eight, .ref h_m_work, .ref h_m_small, .int m_rows, .int m_columns, .int m_prime, .ref h_m_pivots, .ref h_m_freeRows, .ref h_m_freeColumns, .ref h_m_minor, .ref h_m_smallMinor, .ref h_m_fields, .ref h_m_rowCounts, .ref h_m_elements, .ref h_m_numbers, .ref h_m_known, .ref h_m_ranks, .ref h_m_rankOf, .ref h_m_signOf, .ref h_m_order, .ref h_m_sizes, .ref h_m_coefficients, .ref h_m_choices, .ref h_m_sorted])), (h_m_rankOf, .inl (cB, m_rankOf_n, .inl m_rankOf))]) hP hD [0, 1] [2, 3, 4, 5, 6] rfl rfl (by decide) (by decide) hk1 hFc hP1 hD1
        generalize H1 = H at hP hS ⊢
        have hP : va_P (dC, dI) cl_all [(h_m, .inr (6, [.ref h_m_one, .ref h_m_two, .ref h_m_three, .ref h_m_four, .ref h_m_five, .ref h_m_six, .ref h_m_seven, .ref h_m_eight, .ref h_m_work, .ref h_m_small, .int m_rows, .int m_columns, .int m_prime, .ref h_m_pivots, .ref h_m_freeRows, .ref h_m_freeColumns, .ref h_m_minor, .ref h_m_smallMinor, .ref h_m_fields, .ref h_m_rowCounts, .ref h_m_elements, .ref h_m_numbers, .ref h_m_known, .ref h_m_ranks, .ref h_m_rankOf, .ref h_m_signOf, .ref h_m_order, .ref h_m_sizes, .ref h_m_coefficients, .ref h_m_choices, .ref h_m_sorted])), (h_m_rankOf, .inl (cB, m_rankOf_n, .inl m_rankOf)), (h_m_sizes, .inl (cI, m_sizes_n, .inl m_sizes)), (h_m_ranks, .inl (cI, m_ranks_n, .inl m_ranks)), (h_m_elements, .inl (cI, m_elements_n, .inl m_elements)), (h_m_coefficients, .inl (cJ, m_coefficients_n, .inr (.inl w_4))), (h_m_choices, .inl (cJ, m_choices_n, .inr (.inl w_2)))] H := hP.sub [5, 6, 0, 1, 2, 3, 4] rfl
        have hD : va_D A [(h_m, .inr (6, [.ref h_m_one, .ref h_m_two, .ref h_m_three, .ref h_m_four, .ref h_m_five, .ref h_m_six, .ref h_m_seven, .ref h_m_eight, .ref h_m_work, .ref h_m_small, .int m_rows, .int m_columns, .int m_prime, .ref h_m_pivots, .ref h_m_freeRows, .ref h_m_freeColumns, .ref h_m_minor, .ref h_m_smallMinor, .ref h_m_fields, .ref h_m_rowCounts, .ref h_m_elements, .ref h_m_numbers, .ref h_m_known, .ref h_m_ranks, .ref h_m_rankOf, .ref h_m_signOf, .ref h_m_order, .ref h_m_sizes, .ref h_m_coefficients, .ref h_m_choices, .ref h_m_sorted])), (h_m_rankOf, .inl (cB, m_rankOf_n, .inl m_rankOf)), (h_m_sizes, .inl (cI, m_sizes_n, .inl m_sizes)), (h_m_ranks, .inl (cI, m_ranks_n, .inl m_ranks)), (h_m_elements, .inl (cI, m_elements_n, .inl m_elements)), (h_m_coefficients, .inl (cJ, m_coefficients_n, .inr (.inl w_4))), (h_m_choices, .inl (cJ, m_choices_n, .inr (.inl w_2)))] := hD.sub [5, 6, 0, 1, 2, 3, 4] (by decide) rfl
        refine lv_isub hx hb d_Mo_polynomial_129 ?_
        refine lv_topi (fun x_11 ex_11 => ?_)
        replace h := ck_nm_s h ex_11
        refine lv_istore_n (lv' := [(3, .int x_11), (0, .ref h_m), (1, .int k0), (2, .int v2_3)]) hx hb d_Mo_polynomial_130 rfl hl (by decide) rfl (fun ls hl => ?_)
        refine lv_aload_n hx hb d_Mo_polynomial_131 rfl (lv_at hl 1 rfl) ?_
        refine va_get (D := (dC, dI)) (ci := 6) (v := .ref h_m_sizes) (C := "BasisWalkModel") (T := T_Mo) (N := 31) hx hb hts iw1 hown hK hP 0 rfl rfl 27 (by decide) fl2 (fun _ h9 => h9) rfl d_Mo_polynomial_132 ?_
        refine lv_iload_n hx hb d_Mo_polynomial_135 rfl (lv_at hl 3 rfl) ?_
        obtain ⟨g_12, h⟩ := ck_in_s h
        refine va_iald hx hb hK hP 2 0 rfl rfl g_12 d_Mo_polynomial_136 ?_
        refine lv_aload_n hx hb d_Mo_polynomial_137 rfl (lv_at hl 1 rfl) ?_
        refine lv_iload_n hx hb d_Mo_polynomial_138 rfl (lv_at hl 2 rfl) ?_
        refine lv_iload_n hx hb d_Mo_polynomial_139 rfl (lv_at hl 3 rfl) ?_
        obtain ⟨r_13, hc_14, h⟩ := ck_b1_s h
        have hPc := hP.sub (ws' := [(h_m, .inr (6, [.ref h_m_one, .ref h_m_two, .ref h_m_three, .ref h_m_four, .ref h_m_five, .ref h_m_six, .ref h_m_seven, .ref h_m_eight, .ref h_m_work, .ref h_m_small, .int m_rows, .int m_columns, .int m_prime, .ref h_m_pivots, .ref h_m_freeRows, .ref h_m_freeColumns, .ref h_m_minor, .ref h_m_smallMinor, .ref h_m_fields, .ref h_m_rowCounts, .ref h_m_elements, .ref h_m_numbers, .ref h_m_known, .ref h_m_ranks, .ref h_m_rankOf, .ref h_m_signOf, .ref h_m_order, .ref h_m_sizes, .ref h_m_coefficients, .ref h_m_choices, .ref h_m_sorted])), (h_m_rankOf, .inl (cB, m_rankOf_n, .inl m_rankOf))]) [0, 1] rfl
        have hDc := hD.sub (ws' := [(h_m, .inr (6, [.ref h_m_one, .ref h_m_two, .ref h_m_three, .ref h_m_four, .ref h_m_five, .ref h_m_six, .ref h_m_seven, .ref h_m_eight, .ref h_m_work, .ref h_m_small, .int m_rows, .int m_columns, .int m_prime, .ref h_m_pivots, .ref h_m_freeRows, .ref h_m_freeColumns, .ref h_m_minor, .ref h_m_smallMinor, .ref h_m_fields, .ref h_m_rowCounts, .ref h_m_elements, .ref h_m_numbers, .ref h_m_known, .ref h_m_ranks, .ref h_m_rankOf, .ref h_m_signOf, .ref h_m_order, .ref h_m_sizes, .ref h_m_coefficients, .ref h_m_choices, .ref h_m_sorted])), (h_m_rankOf, .inl (cB, m_rankOf_n, .inl m_rankOf))]) [0, 1] (by decide) rfl
        have hFc := va_free (wc := [(h_m, .inr (6, [.ref h_m_one, .ref h_m_two, .ref h_m_three, .ref h_m_four, .ref h_m_five, .ref h_m_six, .ref h_m_seven, .ref h_m_eight, .ref h_m_work, .ref h_m_small, .int m_rows, .int m_columns, .int m_prime, .ref h_m_pivots, .ref h_m_freeRows, .ref h_m_freeColumns, .ref h_m_minor, .ref h_m_smallMinor, .ref h_m_fields, .ref h_m_rowCounts, .ref h_m_elements, .ref h_m_numbers, .ref h_m_known, .ref h_m_ranks, .ref h_m_rankOf, .ref h_m_signOf, .ref h_m_order, .ref h_m_sizes, .ref h_m_coefficients, .ref h_m_choices, .ref h_m_sorted])), (h_m_rankOf, .inl (cB, m_rankOf_n, .inl m_rankOf))]) hD hS hA [0, 1] rfl
        refine va_calli (va_runV (As := [.int k0, .int v2_3]) (rest := [.int (m_sizes v2_3.toNatClampNeg)]) ⟨hx, hb, hml, hown, hts⟩ (c_R_r l dC dI cI cJ cB cZ cT cN H.size h_m h_m_one h_m_two h_m_three h_m_four h_m_five h_m_six h_m_seven h_m_eight h_m_work h_m_small h_m_pivots h_m_freeRows h_m_freeColumns h_m_minor h_m_smallMinor h_m_fields h_m_rowCounts h_m_elements h_m_numbers h_m_known h_m_ranks h_m_rankOf h_m_signOf h_m_order h_m_sizes h_m_coefficients h_m_choices h_m_sorted m_rows m_columns m_prime m_rankOf_n m_rankOf k0 v2_3 _ hc_14) (cwV 2 hts (tb_V tw_602 tw_604 tp_35 tw_6 tw_605) rfl rfl rfl (by decide +kernel) ⟨Nat.le_of_ble_eq_true rfl, Nat.le_of_ble_eq_true rfl⟩) ⟨fun a U g mk q => by obtain ⟨q0, q1, qP, qK, qN, qD⟩ := q; exact ⟨q0, q1, qP, va_K.moved (u := U) (U := U.calling g mk a) (Vm.Alike.refl U.vm) qK, qN.same rfl, qD⟩, va_recv hK hPc (ci := 6) (q0 := 0) rfl rfl, fun U hU hW => ⟨rfl, by rw [hU], by rw [hU]; exact hPc, va_K.moved hW.alike hK, hN.warm hW, hDc.weaken (fun _ _ _ _ => trivial)⟩⟩ rfl rfl hl.1 rfl (lv_room (Nat.le_of_ble_eq_true rfl)) d_Mo_polynomial_140 ⟨Nat.zero_le _, Nat.zero_le _⟩) hS (fun q _ h => hFc q h) hFc (fun rr u t H1 locs ht hvm hw hB hz1 hk1 hS => ?_)
        replace hw := hw.symm
        subst hw
        obtain ⟨hP1, -, hD1⟩ := hB
        rw [ht] at hP1
        obtain ⟨hP, hD⟩ := va_join (wr := [(h_m_sizes, .inl (cI, m_sizes_n, .inl m_sizes)), (h_m_ranks, .inl (cI, m_ranks_n, .inl m_ranks)), (h_m_elements, .inl (cI, m_elements_n, .inl m_elements)), (h_m_coefficients, .inl (cJ, m_coefficients_n, .inr (.inl w_4))), (h_m_choices, .inl (cJ, m_choices_n, .inr (.inl w_2)))]) (w1 := [(h_m, .inr (6, [.ref h_m_one, .ref h_m_two, .ref h_m_three, .ref h_m_four, .ref h_m_five, .ref h_m_six, .ref h_m_seven, .ref h_m_eight, .ref h_m_work, .ref h_m_small, .int m_rows, .int m_columns, .int m_prime, .ref h_m_pivots, .ref h_m_freeRows, .ref h_m_freeColumns, .ref h_m_minor, .ref h_m_smallMinor, .ref h_m_fields, .ref h_m_rowCounts, .ref h_m_elements, .ref h_m_numbers, .ref h_m_known, .ref h_m_ranks, .ref h_m_rankOf, .ref h_m_signOf, .ref h_m_order, .ref h_m_sizes, .ref h_m_coefficients, .ref h_m_choices, .ref h_m_sorted])), (h_m_rankOf, .inl (cB, m_rankOf_n, .inl m_rankOf))]) hP hD [0, 1] [2, 3, 4, 5, 6] rfl rfl (by decide) (by decide) hk1 hFc hP1 hD1
        generalize H1 = H at hP hS ⊢
        have hP : va_P (dC, dI) cl_all [(h_m, .inr (6, [.ref h_m_one, .ref h_m_two, .ref h_m_three, .ref h_m_four, .ref h_m_five, .ref h_m_six, .ref h_m_seven, .ref h_m_eight, .ref h_m_work, .ref h_m_small, .int m_rows, .int m_columns, .int m_prime, .ref h_m_pivots, .ref h_m_freeRows, .ref h_m_freeColumns, .ref h_m_minor, .ref h_m_smallMinor, .ref h_m_fields, .ref h_m_rowCounts, .ref h_m_elements, .ref h_m_numbers, .ref h_m_known, .ref h_m_ranks, .ref h_m_rankOf, .ref h_m_signOf, .ref h_m_order, .ref h_m_sizes, .ref h_m_coefficients, .ref h_m_choices, .ref h_m_sorted])), (h_m_rankOf, .inl (cB, m_rankOf_n, .inl m_rankOf)), (h_m_sizes, .inl (cI, m_sizes_n, .inl m_sizes)), (h_m_ranks, .inl (cI, m_ranks_n, .inl m_ranks)), (h_m_elements, .inl (cI, m_elements_n, .inl m_elements)), (h_m_coefficients, .inl (cJ, m_coefficients_n, .inr (.inl w_4))), (h_m_choices, .inl (cJ, m_choices_n, .inr (.inl w_2)))] H := hP.sub [5, 6, 0, 1, 2, 3, 4] rfl
        have hD : va_D A [(h_m, .inr (6, [.ref h_m_one, .ref h_m_two, .ref h_m_three, .ref h_m_four, .ref h_m_five, .ref h_m_six, .ref h_m_seven, .ref h_m_eight, .ref h_m_work, .ref h_m_small, .int m_rows, .int m_columns, .int m_prime, .ref h_m_pivots, .ref h_m_freeRows, .ref h_m_freeColumns, .ref h_m_minor, .ref h_m_smallMinor, .ref h_m_fields, .ref h_m_rowCounts, .ref h_m_elements, .ref h_m_numbers, .ref h_m_known, .ref h_m_ranks, .ref h_m_rankOf, .ref h_m_signOf, .ref h_m_order, .ref h_m_sizes, .ref h_m_coefficients, .ref h_m_choices, .ref h_m_sorted])), (h_m_rankOf, .inl (cB, m_rankOf_n, .inl m_rankOf)), (h_m_sizes, .inl (cI, m_sizes_n, .inl m_sizes)), (h_m_ranks, .inl (cI, m_ranks_n, .inl m_ranks)), (h_m_elements, .inl (cI, m_elements_n, .inl m_elements)), (h_m_coefficients, .inl (cJ, m_coefficients_n, .inr (.inl w_4))), (h_m_choices, .inl (cJ, m_choices_n, .inr (.inl w_2)))] := hD.sub [5, 6, 0, 1, 2, 3, 4] (by decide) rfl
        refine lv_isub hx hb d_Mo_polynomial_143 ?_
        refine lv_topi (fun x_15 ex_15 => ?_)
        replace h := ck_nm_s h ex_15
        refine lv_istore (lv' := [(4, .int x_15), (3, .int x_11), (0, .ref h_m), (1, .int k0), (2, .int v2_3)]) hx hb d_Mo_polynomial_144 hl (by decide) rfl (fun ls hl => ?_)
        refine lv_iconst (v := 0) hx hb d_Mo_polynomial_146 (by decide) ?_
        refine lv_istore (lv' := [(5, .int 0), (4, .int x_15), (3, .int x_11), (0, .ref h_m), (1, .int k0), (2, .int v2_3)]) hx hb d_Mo_polynomial_147 hl (by decide) rfl (fun ls hl => ?_)
        refine ck_jn_W h (fun k' => ∀ (w_16 : Nat → Int64), k' w_16 = some r → ∀ (H : Heap) (locs : List Loc), va_P (dC, dI) cl_all [(h_m, .inr (6, [.ref h_m_one, .ref h_m_two, .ref h_m_three, .ref h_m_four, .ref h_m_five, .ref h_m_six, .ref h_m_seven, .ref h_m_eight, .ref h_m_work, .ref h_m_small, .int m_rows, .int m_columns, .int m_prime, .ref h_m_pivots, .ref h_m_freeRows, .ref h_m_freeColumns, .ref h_m_minor, .ref h_m_smallMinor, .ref h_m_fields, .ref h_m_rowCounts, .ref h_m_elements, .ref h_m_numbers, .ref h_m_known, .ref h_m_ranks, .ref h_m_rankOf, .ref h_m_signOf, .ref h_m_order, .ref h_m_sizes, .ref h_m_coefficients, .ref h_m_choices, .ref h_m_sorted])), (h_m_rankOf, .inl (cB, m_rankOf_n, .inl m_rankOf)), (h_m_sizes, .inl (cI, m_sizes_n, .inl m_sizes)), (h_m_ranks, .inl (cI, m_ranks_n, .inl m_ranks)), (h_m_elements, .inl (cI, m_elements_n, .inl m_elements)), (h_m_coefficients, .inl (cJ, m_coefficients_n, .inr (.inl w_16))), (h_m_choices, .inl (cJ, m_choices_n, .inr (.inl w_2)))] H → va_D A [(h_m, .inr (6, [.ref h_m_one, .ref h_m_two, .ref h_m_three, .ref h_m_four, .ref h_m_five, .ref h_m_six, .ref h_m_seven, .ref h_m_eight, .ref h_m_work, .ref h_m_small, .int m_rows, .int m_columns, .int m_prime, .ref h_m_pivots, .ref h_m_freeRows, .ref h_m_freeColumns, .ref h_m_minor, .ref h_m_smallMinor, .ref h_m_fields, .ref h_m_rowCounts, .ref h_m_elements, .ref h_m_numbers, .ref h_m_known, .ref h_m_ranks, .ref h_m_rankOf, .ref h_m_signOf, .ref h_m_order, .ref h_m_sizes, .ref h_m_coefficients, .ref h_m_choices, .ref h_m_sorted])), (h_m_rankOf, .inl (cB, m_rankOf_n, .inl m_rankOf)), (h_m_sizes, .inl (cI, m_sizes_n, .inl m_sizes)), (h_m_ranks, .inl (cI, m_ranks_n, .inl m_ranks)), (h_m_elements, .inl (cI, m_elements_n, .inl m_elements)), (h_m_coefficients, .inl (cJ, m_coefficients_n, .inr (.inl w_16))), (h_m_choices, .inl (cJ, m_choices_n, .inr (.inl w_2)))] → va_S A s.heap H locs → ∀ ls : Array Slot, lv_has ls 9 [(0, .ref h_m), (1, .int k0), (2, .int v2_3)] → W p l e ({ frames := 1, cells := 0, slots := 0, locals := 22 } : Room) s m AR below meth c H locs 0 0 QQ (F0 m 244 ls [])) ?_ ?_
        · intro w_16 h H locs hP hD hS ls hl
          obtain ⟨x_17, ex_17⟩ : ∃ y : Int32, y = v2_3 + 1 := ⟨_, rfl⟩
          replace h := ck_nm_s h ex_17
          refine lv_iinc (v := x_17) (lv' := [(2, .int x_17), (0, .ref h_m), (1, .int k0)]) hx hb d_Mo_polynomial_244 hl (k := 2) rfl (by rw [ex_17]; rfl) (by decide) rfl (fun ls hl => ?_)
          refine lv_goto (tgt := 108) hx hb d_Mo_polynomial_247 (by decide) ?_
          exact J_108 _ _ h _ _ hP hD hS _ (lv_sub hl [1, 2, 0] rfl)
        · intro k_244 J_244 h
          refine lo2_W (r := r) (fun (v5_18 : Int32) (w_19 : Nat → Int64) => ∀ (H : Heap) (locs : List Loc), va_P (dC, dI) cl_all [(h_m, .inr (6, [.ref h_m_one, .ref h_m_two, .ref h_m_three, .ref h_m_four, .ref h_m_five, .ref h_m_six, .ref h_m_seven, .ref h_m_eight, .ref h_m_work, .ref h_m_small, .int m_rows, .int m_columns, .int m_prime, .ref h_m_pivots, .ref h_m_freeRows, .ref h_m_freeColumns, .ref h_m_minor, .ref h_m_smallMinor, .ref h_m_fields, .ref h_m_rowCounts, .ref h_m_elements, .ref h_m_numbers, .ref h_m_known, .ref h_m_ranks, .ref h_m_rankOf, .ref h_m_signOf, .ref h_m_order, .ref h_m_sizes, .ref h_m_coefficients, .ref h_m_choices, .ref h_m_sorted])), (h_m_rankOf, .inl (cB, m_rankOf_n, .inl m_rankOf)), (h_m_sizes, .inl (cI, m_sizes_n, .inl m_sizes)), (h_m_ranks, .inl (cI, m_ranks_n, .inl m_ranks)), (h_m_elements, .inl (cI, m_elements_n, .inl m_elements)), (h_m_coefficients, .inl (cJ, m_coefficients_n, .inr (.inl w_19))), (h_m_choices, .inl (cJ, m_choices_n, .inr (.inl w_2)))] H → va_D A [(h_m, .inr (6, [.ref h_m_one, .ref h_m_two, .ref h_m_three, .ref h_m_four, .ref h_m_five, .ref h_m_six, .ref h_m_seven, .ref h_m_eight, .ref h_m_work, .ref h_m_small, .int m_rows, .int m_columns, .int m_prime, .ref h_m_pivots, .ref h_m_freeRows, .ref h_m_freeColumns, .ref h_m_minor, .ref h_m_smallMinor, .ref h_m_fields, .ref h_m_rowCounts, .ref h_m_elements, .ref h_m_numbers, .ref h_m_known, .ref h_m_ranks, .ref h_m_rankOf, .ref h_m_signOf, .ref h_m_order, .ref h_m_sizes, .ref h_m_coefficients, .ref h_m_choices, .ref h_m_sorted])), (h_m_rankOf, .inl (cB, m_rankOf_n, .inl m_rankOf)), (h_m_sizes, .inl (cI, m_sizes_n, .inl m_sizes)), (h_m_ranks, .inl (cI, m_ranks_n, .inl m_ranks)), (h_m_elements, .inl (cI, m_elements_n, .inl m_elements)), (h_m_coefficients, .inl (cJ, m_coefficients_n, .inr (.inl w_19))), (h_m_choices, .inl (cJ, m_choices_n, .inr (.inl w_2)))] → va_S A s.heap H locs → ∀ ls : Array Slot, lv_has ls 9 [(0, .ref h_m), (1, .int k0), (2, .int v2_3), (3, .int x_11), (4, .int x_15), (5, .int v5_18)] → W p l e ({ frames := 1, cells := 0, slots := 0, locals := 22 } : Room) s m AR below meth c H locs 0 0 QQ (F0 m 149 ls [])) ?_ _ _ _ h _ _ hP hD hS _ (lv_sub hl [3, 4, 5, 2, 1, 0] rfl)
          intro k_149 v5_18 w_19 J_149 h H locs hP hD hS ls hl
          refine lv_iload hx hb d_Mo_polynomial_149 (lv_at hl 5 rfl) ?_
          refine lv_iload_n hx hb d_Mo_polynomial_151 rfl (lv_at hl 3 rfl) ?_
          refine lv_icmp_gt (tgt := 244) hx hb d_Mo_polynomial_152 (by decide) (fun c_20 => ?_) (fun c_20 => ?_)
          · replace h := ck_if_t h c_20
            exact J_244 _ h _ _ hP hD hS _ (lv_sub hl [0, 1, 2] rfl)
          · replace h := ck_if_f h c_20
            refine lv_iconst (v := 0) hx hb d_Mo_polynomial_155 (by decide) ?_
            refine lv_istore (lv' := [(6, .int 0), (0, .ref h_m), (1, .int k0), (2, .int v2_3), (3, .int x_11), (4, .int x_15), (5, .int v5_18)]) hx hb d_Mo_polynomial_156 hl (by decide) rfl (fun ls hl => ?_)
            refine ck_jn_W h (fun k' => ∀ (w_21 : Nat → Int64), k' w_21 = some r → ∀ (H : Heap) (locs : List Loc), va_P (dC, dI) cl_all [(h_m, .inr (6, [.ref h_m_one, .ref h_m_two, .ref h_m_three, .ref h_m_four, .ref h_m_five, .ref h_m_six, .ref h_m_seven, .ref h_m_eight, .ref h_m_work, .ref h_m_small, .int m_rows, .int m_columns, .int m_prime, .ref h_m_pivots, .ref h_m_freeRows, .ref h_m_freeColumns, .ref h_m_minor, .ref h_m_smallMinor, .ref h_m_fields, .ref h_m_rowCounts, .ref h_m_elements, .ref h_m_numbers, .ref h_m_known, .ref h_m_ranks, .ref h_m_rankOf, .ref h_m_signOf, .ref h_m_order, .ref h_m_sizes, .ref h_m_coefficients, .ref h_m_choices, .ref h_m_sorted])), (h_m_rankOf, .inl (cB, m_rankOf_n, .inl m_rankOf)), (h_m_sizes, .inl (cI, m_sizes_n, .inl m_sizes)), (h_m_ranks, .inl (cI, m_ranks_n, .inl m_ranks)), (h_m_elements, .inl (cI, m_elements_n, .inl m_elements)), (h_m_coefficients, .inl (cJ, m_coefficients_n, .inr (.inl w_21))), (h_m_choices, .inl (cJ, m_choices_n, .inr (.inl w_2)))] H → va_D A [(h_m, .inr (6, [.ref h_m_one, .ref h_m_two, .ref h_m_three, .ref h_m_four, .ref h_m_five, .ref h_m_six, .ref h_m_seven, .ref h_m_eight, .ref h_m_work, .ref h_m_small, .int m_rows, .int m_columns, .int m_prime, .ref h_m_pivots, .ref h_m_freeRows, .ref h_m_freeColumns, .ref h_m_minor, .ref h_m_smallMinor, .ref h_m_fields, .ref h_m_rowCounts, .ref h_m_elements, .ref h_m_numbers, .ref h_m_known, .ref h_m_ranks, .ref h_m_rankOf, .ref h_m_signOf, .ref h_m_order, .ref h_m_sizes, .ref h_m_coefficients, .ref h_m_choices, .ref h_m_sorted])), (h_m_rankOf, .inl (cB, m_rankOf_n, .inl m_rankOf)), (h_m_sizes, .inl (cI, m_sizes_n, .inl m_sizes)), (h_m_ranks, .inl (cI, m_ranks_n, .inl m_ranks)), (h_m_elements, .inl (cI, m_elements_n, .inl m_elements)), (h_m_coefficients, .inl (cJ, m_coefficients_n, .inr (.inl w_21))), (h_m_choices, .inl (cJ, m_choices_n, .inr (.inl w_2)))] → va_S A s.heap H locs → ∀ ls : Array Slot, lv_has ls 9 [(0, .ref h_m), (1, .int k0), (2, .int v2_3), (3, .int x_11), (4, .int x_15), (5, .int v5_18)] → W p l e ({ frames := 1, cells := 0, slots := 0, locals := 22 } : Room) s m AR below meth c H locs 0 0 QQ (F0 m 238 ls [])) ?_ ?_
            · intro w_21 h H locs hP hD hS ls hl
              obtain ⟨x_22, ex_22⟩ : ∃ y : Int32, y = v5_18 + 1 := ⟨_, rfl⟩
              replace h := ck_nm_s h ex_22
              refine lv_iinc (v := x_22) (lv' := [(5, .int x_22), (0, .ref h_m), (1, .int k0), (2, .int v2_3), (3, .int x_11), (4, .int x_15)]) hx hb d_Mo_polynomial_238 hl (k := 5) rfl (by rw [ex_22]; rfl) (by decide) rfl (fun ls hl => ?_)
              refine lv_goto (tgt := 149) hx hb d_Mo_polynomial_241 (by decide) ?_
              exact J_149 _ _ h _ _ hP hD hS _ (lv_sub hl [1, 2, 3, 4, 5, 0] rfl)
            · intro k_238 J_238 h
              refine lo2_W (r := r) (fun (v6_23 : Int32) (w_24 : Nat → Int64) => ∀ (H : Heap) (locs : List Loc), va_P (dC, dI) cl_all [(h_m, .inr (6, [.ref h_m_one, .ref h_m_two, .ref h_m_three, .ref h_m_four, .ref h_m_five, .ref h_m_six, .ref h_m_seven, .ref h_m_eight, .ref h_m_work, .ref h_m_small, .int m_rows, .int m_columns, .int m_prime, .ref h_m_pivots, .ref h_m_freeRows, .ref h_m_freeColumns, .ref h_m_minor, .ref h_m_smallMinor, .ref h_m_fields, .ref h_m_rowCounts, .ref h_m_elements, .ref h_m_numbers, .ref h_m_known, .ref h_m_ranks, .ref h_m_rankOf, .ref h_m_signOf, .ref h_m_order, .ref h_m_sizes, .ref h_m_coefficients, .ref h_m_choices, .ref h_m_sorted])), (h_m_rankOf, .inl (cB, m_rankOf_n, .inl m_rankOf)), (h_m_sizes, .inl (cI, m_sizes_n, .inl m_sizes)), (h_m_ranks, .inl (cI, m_ranks_n, .inl m_ranks)), (h_m_elements, .inl (cI, m_elements_n, .inl m_elements)), (h_m_coefficients, .inl (cJ, m_coefficients_n, .inr (.inl w_24))), (h_m_choices, .inl (cJ, m_choices_n, .inr (.inl w_2)))] H → va_D A [(h_m, .inr (6, [.ref h_m_one, .ref h_m_two, .ref h_m_three, .ref h_m_four, .ref h_m_five, .ref h_m_six, .ref h_m_seven, .ref h_m_eight, .ref h_m_work, .ref h_m_small, .int m_rows, .int m_columns, .int m_prime, .ref h_m_pivots, .ref h_m_freeRows, .ref h_m_freeColumns, .ref h_m_minor, .ref h_m_smallMinor, .ref h_m_fields, .ref h_m_rowCounts, .ref h_m_elements, .ref h_m_numbers, .ref h_m_known, .ref h_m_ranks, .ref h_m_rankOf, .ref h_m_signOf, .ref h_m_order, .ref h_m_sizes, .ref h_m_coefficients, .ref h_m_choices, .ref h_m_sorted])), (h_m_rankOf, .inl (cB, m_rankOf_n, .inl m_rankOf)), (h_m_sizes, .inl (cI, m_sizes_n, .inl m_sizes)), (h_m_ranks, .inl (cI, m_ranks_n, .inl m_ranks)), (h_m_elements, .inl (cI, m_elements_n, .inl m_elements)), (h_m_coefficients, .inl (cJ, m_coefficients_n, .inr (.inl w_24))), (h_m_choices, .inl (cJ, m_choices_n, .inr (.inl w_2)))] → va_S A s.heap H locs → ∀ ls : Array Slot, lv_has ls 9 [(0, .ref h_m), (1, .int k0), (2, .int v2_3), (3, .int x_11), (4, .int x_15), (5, .int v5_18), (6, .int v6_23)] → W p l e ({ frames := 1, cells := 0, slots := 0, locals := 22 } : Room) s m AR below meth c H locs 0 0 QQ (F0 m 158 ls [])) ?_ _ _ _ h _ _ hP hD hS _ (lv_sub hl [1, 2, 3, 4, 5, 6, 0] rfl)
              intro k_158 v6_23 w_24 J_158 h H locs hP hD hS ls hl
              refine lv_iload hx hb d_Mo_polynomial_158 (lv_at hl 6 rfl) ?_
              refine lv_iload hx hb d_Mo_polynomial_160 (lv_at hl 4 rfl) ?_
              refine lv_icmp_gt (tgt := 238) hx hb d_Mo_polynomial_162 (by decide) (fun c_25 => ?_) (fun c_25 => ?_)
              · replace h := ck_if_t h c_25
                exact J_238 _ h _ _ hP hD hS _ (lv_sub hl [0, 1, 2, 3, 4, 5] rfl)
              · replace h := ck_if_f h c_25
                refine lv_aload_n hx hb d_Mo_polynomial_165 rfl (lv_at hl 0 rfl) ?_
                refine va_get (D := (dC, dI)) (ci := 6) (v := .ref h_m_choices) (C := "BasisWalkModel") (T := T_Mo) (N := 31) hx hb hts iw1 hown hK hP 0 rfl rfl 29 (by decide) fl3 (fun _ h9 => h9) rfl d_Mo_polynomial_166 ?_
                refine lv_bipush (v := 13) hx hb d_Mo_polynomial_169 (by decide) ?_
                refine lv_iload_n hx hb d_Mo_polynomial_171 rfl (lv_at hl 3 rfl) ?_
                refine lv_imul hx hb d_Mo_polynomial_172 ?_
                refine lv_iload hx hb d_Mo_polynomial_173 (lv_at hl 5 rfl) ?_
                refine lv_iadd hx hb d_Mo_polynomial_175 ?_
                obtain ⟨g_26, h⟩ := ck_in_s h
                refine va_lald hx hb hK hP 6 1 rfl rfl g_26 d_Mo_polynomial_176 ?_
                refine lv_aload_n hx hb d_Mo_polynomial_177 rfl (lv_at hl 0 rfl) ?_
                refine va_get (D := (dC, dI)) (ci := 6) (v := .ref h_m_choices) (C := "BasisWalkModel") (T := T_Mo) (N := 31) hx hb hts iw1 hown hK hP 0 rfl rfl 29 (by decide) fl3 (fun _ h9 => h9) rfl d_Mo_polynomial_178 ?_
                refine lv_bipush (v := 13) hx hb d_Mo_polynomial_181 (by decide) ?_
                refine lv_iload hx hb d_Mo_polynomial_183 (lv_at hl 4 rfl) ?_
                refine lv_imul hx hb d_Mo_polynomial_185 ?_
                refine lv_iload hx hb d_Mo_polynomial_186 (lv_at hl 6 rfl) ?_
                refine lv_iadd hx hb d_Mo_polynomial_188 ?_
                obtain ⟨g_27, h⟩ := ck_in_s h
                refine va_lald hx hb hK hP 6 1 rfl rfl g_27 d_Mo_polynomial_189 ?_
                refine lv_lmul hx hb d_Mo_polynomial_190 ?_
                refine lv_topl (fun x_28 ex_28 => ?_)
                replace h := ck_nm_s h ex_28
                refine lv_lstore (lv' := [(7, .long x_28), (0, .ref h_m), (1, .int k0), (2, .int v2_3), (3, .int x_11), (4, .int x_15), (5, .int v5_18), (6, .int v6_23)]) hx hb d_Mo_polynomial_191 hl (by decide) rfl (fun ls hl => ?_)
                refine lv_aload_n hx hb d_Mo_polynomial_193 rfl (lv_at hl 1 rfl) ?_
                refine va_get (D := (dC, dI)) (ci := 6) (v := .ref h_m_coefficients) (C := "BasisWalkModel") (T := T_Mo) (N := 31) hx hb hts iw1 hown hK hP 0 rfl rfl 28 (by decide) fl4 (fun _ h9 => h9) rfl d_Mo_polynomial_194 ?_
                refine lv_bipush (v := 13) hx hb d_Mo_polynomial_197 (by decide) ?_
                refine lv_iload hx hb d_Mo_polynomial_199 (lv_at hl 6 rfl) ?_
                refine lv_imul hx hb d_Mo_polynomial_201 ?_
                refine lv_iload hx hb d_Mo_polynomial_202 (lv_at hl 7 rfl) ?_
                refine lv_iadd hx hb d_Mo_polynomial_204 ?_
                refine lv_dup2_11 hx hb d_Mo_polynomial_205 rfl rfl ?_
                obtain ⟨g_29, h⟩ := ck_in_s h
                refine va_lald hx hb hK hP 5 1 rfl rfl g_29 d_Mo_polynomial_206 ?_
                refine lv_iload_n hx hb d_Mo_polynomial_207 rfl (lv_at hl 4 rfl) ?_
                refine lv_iload hx hb d_Mo_polynomial_208 (lv_at hl 6 rfl) ?_
                refine lv_isub hx hb d_Mo_polynomial_210 ?_
                refine lv_iload hx hb d_Mo_polynomial_211 (lv_at hl 5 rfl) ?_
                refine lv_iadd hx hb d_Mo_polynomial_213 ?_
                refine lv_iload hx hb d_Mo_polynomial_214 (lv_at hl 7 rfl) ?_
                refine lv_isub hx hb d_Mo_polynomial_216 ?_
                refine lv_iconst (v := 2) hx hb d_Mo_polynomial_217 (by decide) ?_
                refine lv_irem hx hb d_Mo_polynomial_218 (by decide) ?_
                refine ck_jn_W h (fun k' => ∀ (s0_30 : Int64), k' s0_30 = some r → ∀ (H : Heap) (locs : List Loc), va_P (dC, dI) cl_all [(h_m, .inr (6, [.ref h_m_one, .ref h_m_two, .ref h_m_three, .ref h_m_four, .ref h_m_five, .ref h_m_six, .ref h_m_seven, .ref h_m_eight, .ref h_m_work, .ref h_m_small, .int m_rows, .int m_columns, .int m_prime, .ref h_m_pivots, .ref h_m_freeRows, .ref h_m_freeColumns, .ref h_m_minor, .ref h_m_smallMinor, .ref h_m_fields, .ref h_m_rowCounts, .ref h_m_elements, .ref h_m_numbers, .ref h_m_known, .ref h_m_ranks, .ref h_m_rankOf, .ref h_m_signOf, .ref h_m_order, .ref h_m_sizes, .ref h_m_coefficients, .ref h_m_choices, .ref h_m_sorted])), (h_m_rankOf, .inl (cB, m_rankOf_n, .inl m_rankOf)), (h_m_sizes, .inl (cI, m_sizes_n, .inl m_sizes)), (h_m_ranks, .inl (cI, m_ranks_n, .inl m_ranks)), (h_m_elements, .inl (cI, m_elements_n, .inl m_elements)), (h_m_coefficients, .inl (cJ, m_coefficients_n, .inr (.inl w_24))), (h_m_choices, .inl (cJ, m_choices_n, .inr (.inl w_2)))] H → va_D A [(h_m, .inr (6, [.ref h_m_one, .ref h_m_two, .ref h_m_three, .ref h_m_four, .ref h_m_five, .ref h_m_six, .ref h_m_seven, .ref h_m_eight, .ref h_m_work, .ref h_m_small, .int m_rows, .int m_columns, .int m_prime, .ref h_m_pivots, .ref h_m_freeRows, .ref h_m_freeColumns, .ref h_m_minor, .ref h_m_smallMinor, .ref h_m_fields, .ref h_m_rowCounts, .ref h_m_elements, .ref h_m_numbers, .ref h_m_known, .ref h_m_ranks, .ref h_m_rankOf, .ref h_m_signOf, .ref h_m_order, .ref h_m_sizes, .ref h_m_coefficients, .ref h_m_choices, .ref h_m_sorted])), (h_m_rankOf, .inl (cB, m_rankOf_n, .inl m_rankOf)), (h_m_sizes, .inl (cI, m_sizes_n, .inl m_sizes)), (h_m_ranks, .inl (cI, m_ranks_n, .inl m_ranks)), (h_m_elements, .inl (cI, m_elements_n, .inl m_elements)), (h_m_coefficients, .inl (cJ, m_coefficients_n, .inr (.inl w_24))), (h_m_choices, .inl (cJ, m_choices_n, .inr (.inl w_2)))] → va_S A s.heap H locs → ∀ ls : Array Slot, lv_has ls 9 [(0, .ref h_m), (1, .int k0), (2, .int v2_3), (3, .int x_11), (4, .int x_15), (5, .int v5_18), (6, .int v6_23)] → W p l e ({ frames := 1, cells := 0, slots := 0, locals := 22 } : Room) s m AR below meth c H locs 0 0 QQ (F0 m 230 ls [.long s0_30, .long (w_24 ((13 * v5_18) + v6_23).toNatClampNeg), .int ((13 * v5_18) + v6_23), .ref h_m_coefficients])) ?_ ?_
                · intro s0_30 h H locs hP hD hS ls hl
                  refine lv_ladd hx hb d_Mo_polynomial_230 ?_
                  obtain ⟨g_31, h⟩ := ck_in_s h
                  refine va_last hx hb hK hP hD hS 5 1 rfl rfl g_31 d_Mo_polynomial_231 (fun H locs hP hD hS => ?_)
                  have hP : va_P (dC, dI) cl_all [(h_m, .inr (6, [.ref h_m_one, .ref h_m_two, .ref h_m_three, .ref h_m_four, .ref h_m_five, .ref h_m_six, .ref h_m_seven, .ref h_m_eight, .ref h_m_work, .ref h_m_small, .int m_rows, .int m_columns, .int m_prime, .ref h_m_pivots, .ref h_m_freeRows, .ref h_m_freeColumns, .ref h_m_minor, .ref h_m_smallMinor, .ref h_m_fields, .ref h_m_rowCounts, .ref h_m_elements, .ref h_m_numbers, .ref h_m_known, .ref h_m_ranks, .ref h_m_rankOf, .ref h_m_signOf, .ref h_m_order, .ref h_m_sizes, .ref h_m_coefficients, .ref h_m_choices, .ref h_m_sorted])), (h_m_rankOf, .inl (cB, m_rankOf_n, .inl m_rankOf)), (h_m_sizes, .inl (cI, m_sizes_n, .inl m_sizes)), (h_m_ranks, .inl (cI, m_ranks_n, .inl m_ranks)), (h_m_elements, .inl (cI, m_elements_n, .inl m_elements)), (h_m_coefficients, .inl (cJ, m_coefficients_n, .inr (.inl (vp_updL w_24 ((13 * v5_18) + v6_23).toNatClampNeg ((w_24 ((13 * v5_18) + v6_23).toNatClampNeg) + s0_30))))), (h_m_choices, .inl (cJ, m_choices_n, .inr (.inl w_2)))] H := hP
                  have hD : va_D A [(h_m, .inr (6, [.ref h_m_one, .ref h_m_two, .ref h_m_three, .ref h_m_four, .ref h_m_five, .ref h_m_six, .ref h_m_seven, .ref h_m_eight, .ref h_m_work, .ref h_m_small, .int m_rows, .int m_columns, .int m_prime, .ref h_m_pivots, .ref h_m_freeRows, .ref h_m_freeColumns, .ref h_m_minor, .ref h_m_smallMinor, .ref h_m_fields, .ref h_m_rowCounts, .ref h_m_elements, .ref h_m_numbers, .ref h_m_known, .ref h_m_ranks, .ref h_m_rankOf, .ref h_m_signOf, .ref h_m_order, .ref h_m_sizes, .ref h_m_coefficients, .ref h_m_choices, .ref h_m_sorted])), (h_m_rankOf, .inl (cB, m_rankOf_n, .inl m_rankOf)), (h_m_sizes, .inl (cI, m_sizes_n, .inl m_sizes)), (h_m_ranks, .inl (cI, m_ranks_n, .inl m_ranks)), (h_m_elements, .inl (cI, m_elements_n, .inl m_elements)), (h_m_coefficients, .inl (cJ, m_coefficients_n, .inr (.inl (vp_updL w_24 ((13 * v5_18) + v6_23).toNatClampNeg ((w_24 ((13 * v5_18) + v6_23).toNatClampNeg) + s0_30))))), (h_m_choices, .inl (cJ, m_choices_n, .inr (.inl w_2)))] := hD
                  obtain ⟨x_32, ex_32⟩ : ∃ y : Int32, y = v6_23 + 1 := ⟨_, rfl⟩
                  replace h := ck_nm_s h ex_32
                  refine lv_iinc (v := x_32) (lv' := [(6, .int x_32), (0, .ref h_m), (1, .int k0), (2, .int v2_3), (3, .int x_11), (4, .int x_15), (5, .int v5_18)]) hx hb d_Mo_polynomial_232 hl (k := 6) rfl (by rw [ex_32]; rfl) (by decide) rfl (fun ls hl => ?_)
                  refine lv_goto (tgt := 158) hx hb d_Mo_polynomial_235 (by decide) ?_
                  exact J_158 _ _ h _ _ hP hD hS _ (lv_sub hl [1, 2, 3, 4, 5, 6, 0] rfl)
                · intro k_230 J_230 h
                  refine lv_if_ne (tgt := 227) hx hb d_Mo_polynomial_219 (by decide) (fun c_33 => ?_) (fun c_33 => ?_)
                  · replace h := ck_if_f h c_33
                    refine lv_lload hx hb d_Mo_polynomial_227 (lv_at hl 0 rfl) ?_
                    refine lv_lneg hx hb d_Mo_polynomial_229 ?_
                    exact J_230 _ h _ _ hP hD hS _ (lv_sub hl [1, 2, 3, 4, 5, 6, 7] rfl)
                  · replace h := ck_if_t h c_33
                    refine lv_lload hx hb d_Mo_polynomial_222 (lv_at hl 0 rfl) ?_
                    refine lv_goto (tgt := 230) hx hb d_Mo_polynomial_224 (by decide) ?_
                    exact J_230 _ h _ _ hP hD hS _ (lv_sub hl [1, 2, 3, 4, 5, 6, 7] rfl)
    · intro k_106 J_106 h
      refine lo2_W (r := r) (fun (v2_34 : Int32) (w_35 : Nat → Int64) => ∀ (H : Heap) (locs : List Loc), va_P (dC, dI) cl_all [(h_m, .inr (6, [.ref h_m_one, .ref h_m_two, .ref h_m_three, .ref h_m_four, .ref h_m_five, .ref h_m_six, .ref h_m_seven, .ref h_m_eight, .ref h_m_work, .ref h_m_small, .int m_rows, .int m_columns, .int m_prime, .ref h_m_pivots, .ref h_m_freeRows, .ref h_m_freeColumns, .ref h_m_minor, .ref h_m_smallMinor, .ref h_m_fields, .ref h_m_rowCounts, .ref h_m_elements, .ref h_m_numbers, .ref h_m_known, .ref h_m_ranks, .ref h_m_rankOf, .ref h_m_signOf, .ref h_m_order, .ref h_m_sizes, .ref h_m_coefficients, .ref h_m_choices, .ref h_m_sorted])), (h_m_rankOf, .inl (cB, m_rankOf_n, .inl m_rankOf)), (h_m_sizes, .inl (cI, m_sizes_n, .inl m_sizes)), (h_m_ranks, .inl (cI, m_ranks_n, .inl m_ranks)), (h_m_elements, .inl (cI, m_elements_n, .inl m_elements)), (h_m_coefficients, .inl (cJ, m_coefficients_n, .inr (.inl w_1))), (h_m_choices, .inl (cJ, m_choices_n, .inr (.inl w_35)))] H → va_D A [(h_m, .inr (6, [.ref h_m_one, .ref h_m_two, .ref h_m_three, .ref h_m_four, .ref h_m_five, .ref h_m_six, .ref h_m_seven, .ref h_m_eight, .ref h_m_work, .ref h_m_small, .int m_rows, .int m_columns, .int m_prime, .ref h_m_pivots, .ref h_m_freeRows, .ref h_m_freeColumns, .ref h_m_minor, .ref h_m_smallMinor, .ref h_m_fields, .ref h_m_rowCounts, .ref h_m_elements, .ref h_m_numbers, .ref h_m_known, .ref h_m_ranks, .ref h_m_rankOf, .ref h_m_signOf, .ref h_m_order, .ref h_m_sizes, .ref h_m_coefficients, .ref h_m_choices, .ref h_m_sorted])), (h_m_rankOf, .inl (cB, m_rankOf_n, .inl m_rankOf)), (h_m_sizes, .inl (cI, m_sizes_n, .inl m_sizes)), (h_m_ranks, .inl (cI, m_ranks_n, .inl m_ranks)), (h_m_elements, .inl (cI, m_elements_n, .inl m_elements)), (h_m_coefficients, .inl (cJ, m_coefficients_n, .inr (.inl w_1))), (h_m_choices, .inl (cJ, m_choices_n, .inr (.inl w_35)))] → va_S A s.heap H locs → ∀ ls : Array Slot, lv_has ls 9 [(0, .ref h_m), (1, .int k0), (2, .int v2_34)] → W p l e ({ frames := 1, cells := 0, slots := 0, locals := 22 } : Room) s m AR below meth c H locs 0 0 QQ (F0 m 24 ls [])) ?_ _ _ _ h _ _ hP hD hS _ (lv_sub hl [1, 2, 0] rfl)
      intro k_24 v2_34 w_35 J_24 h H locs hP hD hS ls hl
      refine lv_iload_n hx hb d_Mo_polynomial_24 rfl (lv_at hl 2 rfl) ?_
      refine lv_bipush (v := 13) hx hb d_Mo_polynomial_25 (by decide) ?_
      refine lv_icmp_ge (tgt := 106) hx hb d_Mo_polynomial_27 (by decide) (fun c_36 => ?_) (fun c_36 => ?_)
      · replace h := ck_if_t h c_36
        exact J_106 _ h _ _ hP hD hS _ (lv_sub hl [0, 1] rfl)
      · replace h := ck_if_f h c_36
        refine lv_iconst (v := 0) hx hb d_Mo_polynomial_30 (by decide) ?_
        refine lv_istore_n (lv' := [(3, .int 0), (0, .ref h_m), (1, .int k0), (2, .int v2_34)]) hx hb d_Mo_polynomial_31 rfl hl (by decide) rfl (fun ls hl => ?_)
        refine ck_jn_W h (fun k' => ∀ (w_37 : Nat → Int64), k' w_37 = some r → ∀ (H : Heap) (locs : List Loc), va_P (dC, dI) cl_all [(h_m, .inr (6, [.ref h_m_one, .ref h_m_two, .ref h_m_three, .ref h_m_four, .ref h_m_five, .ref h_m_six, .ref h_m_seven, .ref h_m_eight, .ref h_m_work, .ref h_m_small, .int m_rows, .int m_columns, .int m_prime, .ref h_m_pivots, .ref h_m_freeRows, .ref h_m_freeColumns, .ref h_m_minor, .ref h_m_smallMinor, .ref h_m_fields, .ref h_m_rowCounts, .ref h_m_elements, .ref h_m_numbers, .ref h_m_known, .ref h_m_ranks, .ref h_m_rankOf, .ref h_m_signOf, .ref h_m_order, .ref h_m_sizes, .ref h_m_coefficients, .ref h_m_choices, .ref h_m_sorted])), (h_m_rankOf, .inl (cB, m_rankOf_n, .inl m_rankOf)), (h_m_sizes, .inl (cI, m_sizes_n, .inl m_sizes)), (h_m_ranks, .inl (cI, m_ranks_n, .inl m_ranks)), (h_m_elements, .inl (cI, m_elements_n, .inl m_elements)), (h_m_coefficients, .inl (cJ, m_coefficients_n, .inr (.inl w_1))), (h_m_choices, .inl (cJ, m_choices_n, .inr (.inl w_37)))] H → va_D A [(h_m, .inr (6, [.ref h_m_one, .ref h_m_two, .ref h_m_three, .ref h_m_four, .ref h_m_five, .ref h_m_six, .ref h_m_seven, .ref h_m_eight, .ref h_m_work, .ref h_m_small, .int m_rows, .int m_columns, .int m_prime, .ref h_m_pivots, .ref h_m_freeRows, .ref h_m_freeColumns, .ref h_m_minor, .ref h_m_smallMinor, .ref h_m_fields, .ref h_m_rowCounts, .ref h_m_elements, .ref h_m_numbers, .ref h_m_known, .ref h_m_ranks, .ref h_m_rankOf, .ref h_m_signOf, .ref h_m_order, .ref h_m_sizes, .ref h_m_coefficients, .ref h_m_choices, .ref h_m_sorted])), (h_m_rankOf, .inl (cB, m_rankOf_n, .inl m_rankOf)), (h_m_sizes, .inl (cI, m_sizes_n, .inl m_sizes)), (h_m_ranks, .inl (cI, m_ranks_n, .inl m_ranks)), (h_m_elements, .inl (cI, m_elements_n, .inl m_elements)), (h_m_coefficients, .inl (cJ, m_coefficients_n, .inr (.inl w_1))), (h_m_choices, .inl (cJ, m_choices_n, .inr (.inl w_37)))] → va_S A s.heap H locs → ∀ ls : Array Slot, lv_has ls 9 [(0, .ref h_m), (1, .int k0), (2, .int v2_34)] → W p l e ({ frames := 1, cells := 0, slots := 0, locals := 22 } : Room) s m AR below meth c H locs 0 0 QQ (F0 m 100 ls [])) ?_ ?_
        · intro w_37 h H locs hP hD hS ls hl
          obtain ⟨x_38, ex_38⟩ : ∃ y : Int32, y = v2_34 + 1 := ⟨_, rfl⟩
          replace h := ck_nm_s h ex_38
          refine lv_iinc (v := x_38) (lv' := [(2, .int x_38), (0, .ref h_m), (1, .int k0)]) hx hb d_Mo_polynomial_100 hl (k := 2) rfl (by rw [ex_38]; rfl) (by decide) rfl (fun ls hl => ?_)
          refine lv_goto (tgt := 24) hx hb d_Mo_polynomial_103 (by decide) ?_
          exact J_24 _ _ h _ _ hP hD hS _ (lv_sub hl [1, 2, 0] rfl)
        · intro k_100 J_100 h
          refine lo2_W (r := r) (fun (v3_39 : Int32) (w_40 : Nat → Int64) => ∀ (H : Heap) (locs : List Loc), va_P (dC, dI) cl_all [(h_m, .inr (6, [.ref h_m_one, .ref h_m_two, .ref h_m_three, .ref h_m_four, .ref h_m_five, .ref h_m_six, .ref h_m_seven, .ref h_m_eight, .ref h_m_work, .ref h_m_small, .int m_rows, .int m_columns, .int m_prime, .ref h_m_pivots, .ref h_m_freeRows, .ref h_m_freeColumns, .ref h_m_minor, .ref h_m_smallMinor, .ref h_m_fields, .ref h_m_rowCounts, .ref h_m_elements, .ref h_m_numbers, .ref h_m_known, .ref h_m_ranks, .ref h_m_rankOf, .ref h_m_signOf, .ref h_m_order, .ref h_m_sizes, .ref h_m_coefficients, .ref h_m_choices, .ref h_m_sorted])), (h_m_rankOf, .inl (cB, m_rankOf_n, .inl m_rankOf)), (h_m_sizes, .inl (cI, m_sizes_n, .inl m_sizes)), (h_m_ranks, .inl (cI, m_ranks_n, .inl m_ranks)), (h_m_elements, .inl (cI, m_elements_n, .inl m_elements)), (h_m_coefficients, .inl (cJ, m_coefficients_n, .inr (.inl w_1))), (h_m_choices, .inl (cJ, m_choices_n, .inr (.inl w_40)))] H → va_D A [(h_m, .inr (6, [.ref h_m_one, .ref h_m_two, .ref h_m_three, .ref h_m_four, .ref h_m_five, .ref h_m_six, .ref h_m_seven, .ref h_m_eight, .ref h_m_work, .ref h_m_small, .int m_rows, .int m_columns, .int m_prime, .ref h_m_pivots, .ref h_m_freeRows, .ref h_m_freeColumns, .ref h_m_minor, .ref h_m_smallMinor, .ref h_m_fields, .ref h_m_rowCounts, .ref h_m_elements, .ref h_m_numbers, .ref h_m_known, .ref h_m_ranks, .ref h_m_rankOf, .ref h_m_signOf, .ref h_m_order, .ref h_m_sizes, .ref h_m_coefficients, .ref h_m_choices, .ref h_m_sorted])), (h_m_rankOf, .inl (cB, m_rankOf_n, .inl m_rankOf)), (h_m_sizes, .inl (cI, m_sizes_n, .inl m_sizes)), (h_m_ranks, .inl (cI, m_ranks_n, .inl m_ranks)), (h_m_elements, .inl (cI, m_elements_n, .inl m_elements)), (h_m_coefficients, .inl (cJ, m_coefficients_n, .inr (.inl w_1))), (h_m_choices, .inl (cJ, m_choices_n, .inr (.inl w_40)))] → va_S A s.heap H locs → ∀ ls : Array Slot, lv_has ls 9 [(0, .ref h_m), (1, .int k0), (2, .int v2_34), (3, .int v3_39)] → W p l e ({ frames := 1, cells := 0, slots := 0, locals := 22 } : Room) s m AR below meth c H locs 0 0 QQ (F0 m 32 ls [])) ?_ _ _ _ h _ _ hP hD hS _ (lv_sub hl [1, 2, 3, 0] rfl)
          intro k_32 v3_39 w_40 J_32 h H locs hP hD hS ls hl
          refine lv_iload_n hx hb d_Mo_polynomial_32 rfl (lv_at hl 3 rfl) ?_
          refine lv_bipush (v := 13) hx hb d_Mo_polynomial_33 (by decide) ?_
          refine lv_icmp_ge (tgt := 100) hx hb d_Mo_polynomial_35 (by decide) (fun c_41 => ?_) (fun c_41 => ?_)
          · replace h := ck_if_t h c_41
            exact J_100 _ h _ _ hP hD hS _ (lv_sub hl [0, 1, 2] rfl)
          · replace h := ck_if_f h c_41
            refine lv_aload_n hx hb d_Mo_polynomial_38 rfl (lv_at hl 0 rfl) ?_
            refine va_get (D := (dC, dI)) (ci := 6) (v := .ref h_m_choices) (C := "BasisWalkModel") (T := T_Mo) (N := 31) hx hb hts iw1 hown hK hP 0 rfl rfl 29 (by decide) fl3 (fun _ h9 => h9) rfl d_Mo_polynomial_39 ?_
            refine lv_bipush (v := 13) hx hb d_Mo_polynomial_42 (by decide) ?_
            refine lv_iload_n hx hb d_Mo_polynomial_44 rfl (lv_at hl 2 rfl) ?_
            refine lv_imul hx hb d_Mo_polynomial_45 ?_
            refine lv_iload_n hx hb d_Mo_polynomial_46 rfl (lv_at hl 3 rfl) ?_
            refine lv_iadd hx hb d_Mo_polynomial_47 ?_
            refine lv_iload_n hx hb d_Mo_polynomial_48 rfl (lv_at hl 3 rfl) ?_
            refine ck_jn_W h (fun k' => ∀ (s0_42 : Int64), k' s0_42 = some r → ∀ (H : Heap) (locs : List Loc), va_P (dC, dI) cl_all [(h_m, .inr (6, [.ref h_m_one, .ref h_m_two, .ref h_m_three, .ref h_m_four, .ref h_m_five, .ref h_m_six, .ref h_m_seven, .ref h_m_eight, .ref h_m_work, .ref h_m_small, .int m_rows, .int m_columns, .int m_prime, .ref h_m_pivots, .ref h_m_freeRows, .ref h_m_freeColumns, .ref h_m_minor, .ref h_m_smallMinor, .ref h_m_fields, .ref h_m_rowCounts, .ref h_m_elements, .ref h_m_numbers, .ref h_m_known, .ref h_m_ranks, .ref h_m_rankOf, .ref h_m_signOf, .ref h_m_order, .ref h_m_sizes, .ref h_m_coefficients, .ref h_m_choices, .ref h_m_sorted])), (h_m_rankOf, .inl (cB, m_rankOf_n, .inl m_rankOf)), (h_m_sizes, .inl (cI, m_sizes_n, .inl m_sizes)), (h_m_ranks, .inl (cI, m_ranks_n, .inl m_ranks)), (h_m_elements, .inl (cI, m_elements_n, .inl m_elements)), (h_m_coefficients, .inl (cJ, m_coefficients_n, .inr (.inl w_1))), (h_m_choices, .inl (cJ, m_choices_n, .inr (.inl w_40)))] H → va_D A [(h_m, .inr (6, [.ref h_m_one, .ref h_m_two, .ref h_m_three, .ref h_m_four, .ref h_m_five, .ref h_m_six, .ref h_m_seven, .ref h_m_eight, .ref h_m_work, .ref h_m_small, .int m_rows, .int m_columns, .int m_prime, .ref h_m_pivots, .ref h_m_freeRows, .ref h_m_freeColumns, .ref h_m_minor, .ref h_m_smallMinor, .ref h_m_fields, .ref h_m_rowCounts, .ref h_m_elements, .ref h_m_numbers, .ref h_m_known, .ref h_m_ranks, .ref h_m_rankOf, .ref h_m_signOf, .ref h_m_order, .ref h_m_sizes, .ref h_m_coefficients, .ref h_m_choices, .ref h_m_sorted])), (h_m_rankOf, .inl (cB, m_rankOf_n, .inl m_rankOf)), (h_m_sizes, .inl (cI, m_sizes_n, .inl m_sizes)), (h_m_ranks, .inl (cI, m_ranks_n, .inl m_ranks)), (h_m_elements, .inl (cI, m_elements_n, .inl m_elements)), (h_m_coefficients, .inl (cJ, m_coefficients_n, .inr (.inl w_1))), (h_m_choices, .inl (cJ, m_choices_n, .inr (.inl w_40)))] → va_S A s.heap H locs → ∀ ls : Array Slot, lv_has ls 9 [(0, .ref h_m), (1, .int k0), (2, .int v2_34), (3, .int v3_39)] → W p l e ({ frames := 1, cells := 0, slots := 0, locals := 22 } : Room) s m AR below meth c H locs 0 0 QQ (F0 m 93 ls [.long s0_42, .int ((13 * v2_34) + v3_39), .ref h_m_choices])) ?_ ?_
            · intro s0_42 h H locs hP hD hS ls hl
              obtain ⟨g_43, h⟩ := ck_in_s h
              refine va_last hx hb hK hP hD hS 6 1 rfl rfl g_43 d_Mo_polynomial_93 (fun H locs hP hD hS => ?_)
              have hP : va_P (dC, dI) cl_all [(h_m, .inr (6, [.ref h_m_one, .ref h_m_two, .ref h_m_three, .ref h_m_four, .ref h_m_five, .ref h_m_six, .ref h_m_seven, .ref h_m_eight, .ref h_m_work, .ref h_m_small, .int m_rows, .int m_columns, .int m_prime, .ref h_m_pivots, .ref h_m_freeRows, .ref h_m_freeColumns, .ref h_m_minor, .ref h_m_smallMinor, .ref h_m_fields, .ref h_m_rowCounts, .ref h_m_elements, .ref h_m_numbers, .ref h_m_known, .ref h_m_ranks, .ref h_m_rankOf, .ref h_m_signOf, .ref h_m_order, .ref h_m_sizes, .ref h_m_coefficients, .ref h_m_choices, .ref h_m_sorted])), (h_m_rankOf, .inl (cB, m_rankOf_n, .inl m_rankOf)), (h_m_sizes, .inl (cI, m_sizes_n, .inl m_sizes)), (h_m_ranks, .inl (cI, m_ranks_n, .inl m_ranks)), (h_m_elements, .inl (cI, m_elements_n, .inl m_elements)), (h_m_coefficients, .inl (cJ, m_coefficients_n, .inr (.inl w_1))), (h_m_choices, .inl (cJ, m_choices_n, .inr (.inl (vp_updL w_40 ((13 * v2_34) + v3_39).toNatClampNeg s0_42))))] H := hP
              have hD : va_D A [(h_m, .inr (6, [.ref h_m_one, .ref h_m_two, .ref h_m_three, .ref h_m_four, .ref h_m_five, .ref h_m_six, .ref h_m_seven, .ref h_m_eight, .ref h_m_work, .ref h_m_small, .int m_rows, .int m_columns, .int m_prime, .ref h_m_pivots, .ref h_m_freeRows, .ref h_m_freeColumns, .ref h_m_minor, .ref h_m_smallMinor, .ref h_m_fields, .ref h_m_rowCounts, .ref h_m_elements, .ref h_m_numbers, .ref h_m_known, .ref h_m_ranks, .ref h_m_rankOf, .ref h_m_signOf, .ref h_m_order, .ref h_m_sizes, .ref h_m_coefficients, .ref h_m_choices, .ref h_m_sorted])), (h_m_rankOf, .inl (cB, m_rankOf_n, .inl m_rankOf)), (h_m_sizes, .inl (cI, m_sizes_n, .inl m_sizes)), (h_m_ranks, .inl (cI, m_ranks_n, .inl m_ranks)), (h_m_elements, .inl (cI, m_elements_n, .inl m_elements)), (h_m_coefficients, .inl (cJ, m_coefficients_n, .inr (.inl w_1))), (h_m_choices, .inl (cJ, m_choices_n, .inr (.inl (vp_updL w_40 ((13 * v2_34) + v3_39).toNatClampNeg s0_42))))] := hD
              obtain ⟨x_44, ex_44⟩ : ∃ y : Int32, y = v3_39 + 1 := ⟨_, rfl⟩
              replace h := ck_nm_s h ex_44
              refine lv_iinc (v := x_44) (lv' := [(3, .int x_44), (0, .ref h_m), (1, .int k0), (2, .int v2_34)]) hx hb d_Mo_polynomial_94 hl (k := 3) rfl (by rw [ex_44]; rfl) (by decide) rfl (fun ls hl => ?_)
              refine lv_goto (tgt := 32) hx hb d_Mo_polynomial_97 (by decide) ?_
              exact J_32 _ _ h _ _ hP hD hS _ (lv_sub hl [1, 2, 3, 0] rfl)
            · intro k_93 J_93 h
              refine lv_if_ne (tgt := 56) hx hb d_Mo_polynomial_49 (by decide) (fun c_45 => ?_) (fun c_45 => ?_)
              · replace h := ck_if_f h c_45
                refine lv_iload_n hx hb d_Mo_polynomial_56 rfl (lv_at hl 2 rfl) ?_
                refine lv_if_ne (tgt := 64) hx hb d_Mo_polynomial_57 (by decide) (fun c_46 => ?_) (fun c_46 => ?_)
                · replace h := ck_if_f h c_46
                  refine lv_aload_n hx hb d_Mo_polynomial_64 rfl (lv_at hl 0 rfl) ?_
                  refine va_get (D := (dC, dI)) (ci := 6) (v := .ref h_m_choices) (C := "BasisWalkModel") (T := T_Mo) (N := 31) hx hb hts iw1 hown hK hP 0 rfl rfl 29 (by decide) fl3 (fun _ h9 => h9) rfl d_Mo_polynomial_65 ?_
                  refine lv_bipush (v := 13) hx hb d_Mo_polynomial_68 (by decide) ?_
                  refine lv_iload_n hx hb d_Mo_polynomial_70 rfl (lv_at hl 2 rfl) ?_
                  refine lv_iconst (v := 1) hx hb d_Mo_polynomial_71 (by decide) ?_
                  refine lv_isub hx hb d_Mo_polynomial_72 ?_
                  refine lv_imul hx hb d_Mo_polynomial_73 ?_
                  refine lv_iload_n hx hb d_Mo_polynomial_74 rfl (lv_at hl 3 rfl) ?_
                  refine lv_iadd hx hb d_Mo_polynomial_75 ?_
                  obtain ⟨g_47, h⟩ := ck_in_s h
                  refine va_lald hx hb hK hP 6 1 rfl rfl g_47 d_Mo_polynomial_76 ?_
                  refine lv_aload_n hx hb d_Mo_polynomial_77 rfl (lv_at hl 0 rfl) ?_
                  refine va_get (D := (dC, dI)) (ci := 6) (v := .ref h_m_choices) (C := "BasisWalkModel") (T := T_Mo) (N := 31) hx hb hts iw1 hown hK hP 0 rfl rfl 29 (by decide) fl3 (fun _ h9 => h9) rfl d_Mo_polynomial_78 ?_
                  refine lv_bipush (v := 13) hx hb d_Mo_polynomial_81 (by decide) ?_
                  refine lv_iload_n hx hb d_Mo_polynomial_83 rfl (lv_at hl 2 rfl) ?_
                  refine lv_iconst (v := 1) hx hb d_Mo_polynomial_84 (by decide) ?_
                  refine lv_isub hx hb d_Mo_polynomial_85 ?_
                  refine lv_imul hx hb d_Mo_polynomial_86 ?_
                  refine lv_iload_n hx hb d_Mo_polynomial_87 rfl (lv_at hl 3 rfl) ?_
                  refine lv_iadd hx hb d_Mo_polynomial_88 ?_
                  refine lv_iconst (v := 1) hx hb d_Mo_polynomial_89 (by decide) ?_
                  refine lv_isub hx hb d_Mo_polynomial_90 ?_
                  obtain ⟨g_48, h⟩ := ck_in_s h
                  refine va_lald hx hb hK hP 6 1 rfl rfl g_48 d_Mo_polynomial_91 ?_
                  refine lv_ladd hx hb d_Mo_polynomial_92 ?_
                  exact J_93 _ h _ _ hP hD hS _ (lv_sub hl [0, 1, 2, 3] rfl)
                · replace h := ck_if_t h c_46
                  refine lv_lconst (v := 0) hx hb d_Mo_polynomial_60 (by decide) ?_
                  refine lv_goto (tgt := 93) hx hb d_Mo_polynomial_61 (by decide) ?_
                  exact J_93 _ h _ _ hP hD hS _ (lv_sub hl [0, 1, 2, 3] rfl)
              · replace h := ck_if_t h c_45
                refine lv_lconst (v := 1) hx hb d_Mo_polynomial_52 (by decide) ?_
                refine lv_goto (tgt := 93) hx hb d_Mo_polynomial_53 (by decide) ?_
                exact J_93 _ h _ _ hP hD hS _ (lv_sub hl [0, 1, 2, 3] rfl)
  · intro k_22 J_22 h
    refine lo2_W (r := r) (fun (v2_49 : Int32) (w_50 : Nat → Int64) => ∀ (H : Heap) (locs : List Loc), va_P (dC, dI) cl_all [(h_m, .inr (6, [.ref h_m_one, .ref h_m_two, .ref h_m_three, .ref h_m_four, .ref h_m_five, .ref h_m_six, .ref h_m_seven, .ref h_m_eight, .ref h_m_work, .ref h_m_small, .int m_rows, .int m_columns, .int m_prime, .ref h_m_pivots, .ref h_m_freeRows, .ref h_m_freeColumns, .ref h_m_minor, .ref h_m_smallMinor, .ref h_m_fields, .ref h_m_rowCounts, .ref h_m_elements, .ref h_m_numbers, .ref h_m_known, .ref h_m_ranks, .ref h_m_rankOf, .ref h_m_signOf, .ref h_m_order, .ref h_m_sizes, .ref h_m_coefficients, .ref h_m_choices, .ref h_m_sorted])), (h_m_rankOf, .inl (cB, m_rankOf_n, .inl m_rankOf)), (h_m_sizes, .inl (cI, m_sizes_n, .inl m_sizes)), (h_m_ranks, .inl (cI, m_ranks_n, .inl m_ranks)), (h_m_elements, .inl (cI, m_elements_n, .inl m_elements)), (h_m_coefficients, .inl (cJ, m_coefficients_n, .inr (.inl w_50))), (h_m_choices, .inl (cJ, m_choices_n, .inr (.inl m_choices)))] H → va_D A [(h_m, .inr (6, [.ref h_m_one, .ref h_m_two, .ref h_m_three, .ref h_m_four, .ref h_m_five, .ref h_m_six, .ref h_m_seven, .ref h_m_eight, .ref h_m_work, .ref h_m_small, .int m_rows, .int m_columns, .int m_prime, .ref h_m_pivots, .ref h_m_freeRows, .ref h_m_freeColumns, .ref h_m_minor, .ref h_m_smallMinor, .ref h_m_fields, .ref h_m_rowCounts, .ref h_m_elements, .ref h_m_numbers, .ref h_m_known, .ref h_m_ranks, .ref h_m_rankOf, .ref h_m_signOf, .ref h_m_order, .ref h_m_sizes, .ref h_m_coefficients, .ref h_m_choices, .ref h_m_sorted])), (h_m_rankOf, .inl (cB, m_rankOf_n, .inl m_rankOf)), (h_m_sizes, .inl (cI, m_sizes_n, .inl m_sizes)), (h_m_ranks, .inl (cI, m_ranks_n, .inl m_ranks)), (h_m_elements, .inl (cI, m_elements_n, .inl m_elements)), (h_m_coefficients, .inl (cJ, m_coefficients_n, .inr (.inl w_50))), (h_m_choices, .inl (cJ, m_choices_n, .inr (.inl m_choices)))] → va_S A s.heap H locs → ∀ ls : Array Slot, lv_has ls 9 [(0, .ref h_m), (1, .int k0), (2, .int v2_49)] → W p l e ({ frames := 1, cells := 0, slots := 0, locals := 22 } : Room) s m AR below meth c H locs 0 0 QQ (F0 m 2 ls [])) ?_ _ _ _ h _ _ hP hD hS _ (lv_sub hl [1, 2, 0] rfl)
    intro k_2 v2_49 w_50 J_2 h H locs hP hD hS ls hl
    refine lv_iload_n hx hb d_Mo_polynomial_2 rfl (lv_at hl 2 rfl) ?_
    refine lv_sipush (v := 169) hx hb d_Mo_polynomial_3 (by decide) ?_
    refine lv_icmp_ge (tgt := 22) hx hb d_Mo_polynomial_6 (by decide) (fun c_51 => ?_) (fun c_51 => ?_)
    · replace h := ck_if_t h c_51
      exact J_22 _ h _ _ hP hD hS _ (lv_sub hl [0, 1] rfl)
    · replace h := ck_if_f h c_51
      refine lv_aload_n hx hb d_Mo_polynomial_9 rfl (lv_at hl 0 rfl) ?_
      refine va_get (D := (dC, dI)) (ci := 6) (v := .ref h_m_coefficients) (C := "BasisWalkModel") (T := T_Mo) (N := 31) hx hb hts iw1 hown hK hP 0 rfl rfl 28 (by decide) fl4 (fun _ h9 => h9) rfl d_Mo_polynomial_10 ?_
      refine lv_iload_n hx hb d_Mo_polynomial_13 rfl (lv_at hl 2 rfl) ?_
      refine lv_lconst (v := 0) hx hb d_Mo_polynomial_14 (by decide) ?_
      obtain ⟨g_52, h⟩ := ck_in_s h
      refine va_last hx hb hK hP hD hS 5 1 rfl rfl g_52 d_Mo_polynomial_15 (fun H locs hP hD hS => ?_)
      have hP : va_P (dC, dI) cl_all [(h_m, .inr (6, [.ref h_m_one, .ref h_m_two, .ref h_m_three, .ref h_m_four, .ref h_m_five, .ref h_m_six, .ref h_m_seven, .ref h_m_eight, .ref h_m_work, .ref h_m_small, .int m_rows, .int m_columns, .int m_prime, .ref h_m_pivots, .ref h_m_freeRows, .ref h_m_freeColumns, .ref h_m_minor, .ref h_m_smallMinor, .ref h_m_fields, .ref h_m_rowCounts, .ref h_m_elements, .ref h_m_numbers, .ref h_m_known, .ref h_m_ranks, .ref h_m_rankOf, .ref h_m_signOf, .ref h_m_order, .ref h_m_sizes, .ref h_m_coefficients, .ref h_m_choices, .ref h_m_sorted])), (h_m_rankOf, .inl (cB, m_rankOf_n, .inl m_rankOf)), (h_m_sizes, .inl (cI, m_sizes_n, .inl m_sizes)), (h_m_ranks, .inl (cI, m_ranks_n, .inl m_ranks)), (h_m_elements, .inl (cI, m_elements_n, .inl m_elements)), (h_m_coefficients, .inl (cJ, m_coefficients_n, .inr (.inl (vp_updL w_50 v2_49.toNatClampNeg 0)))), (h_m_choices, .inl (cJ, m_choices_n, .inr (.inl m_choices)))] H := hP
      have hD : va_D A [(h_m, .inr (6, [.ref h_m_one, .ref h_m_two, .ref h_m_three, .ref h_m_four, .ref h_m_five, .ref h_m_six, .ref h_m_seven, .ref h_m_eight, .ref h_m_work, .ref h_m_small, .int m_rows, .int m_columns, .int m_prime, .ref h_m_pivots, .ref h_m_freeRows, .ref h_m_freeColumns, .ref h_m_minor, .ref h_m_smallMinor, .ref h_m_fields, .ref h_m_rowCounts, .ref h_m_elements, .ref h_m_numbers, .ref h_m_known, .ref h_m_ranks, .ref h_m_rankOf, .ref h_m_signOf, .ref h_m_order, .ref h_m_sizes, .ref h_m_coefficients, .ref h_m_choices, .ref h_m_sorted])), (h_m_rankOf, .inl (cB, m_rankOf_n, .inl m_rankOf)), (h_m_sizes, .inl (cI, m_sizes_n, .inl m_sizes)), (h_m_ranks, .inl (cI, m_ranks_n, .inl m_ranks)), (h_m_elements, .inl (cI, m_elements_n, .inl m_elements)), (h_m_coefficients, .inl (cJ, m_coefficients_n, .inr (.inl (vp_updL w_50 v2_49.toNatClampNeg 0)))), (h_m_choices, .inl (cJ, m_choices_n, .inr (.inl m_choices)))] := hD
      obtain ⟨x_53, ex_53⟩ : ∃ y : Int32, y = v2_49 + 1 := ⟨_, rfl⟩
      replace h := ck_nm_s h ex_53
      refine lv_iinc (v := x_53) (lv' := [(2, .int x_53), (0, .ref h_m), (1, .int k0)]) hx hb d_Mo_polynomial_16 hl (k := 2) rfl (by rw [ex_53]; rfl) (by decide) rfl (fun ls hl => ?_)
      refine lv_goto (tgt := 2) hx hb d_Mo_polynomial_19 (by decide) ?_
      exact J_2 _ _ h _ _ hP hD hS _ (lv_sub hl [1, 2, 0] rfl)
theorem d_Mo_isEven_0 : decode prog_7_method_36_code 0 = .ok (.iconst 0, 1) := by decide +kernel
theorem d_Mo_isEven_1 : decode prog_7_method_36_code 1 = .ok (.istore_n 2, 1) := by decide +kernel
theorem d_Mo_isEven_2 : decode prog_7_method_36_code 2 = .ok (.iconst 0, 1) := by decide +kernel
theorem d_Mo_isEven_3 : decode prog_7_method_36_code 3 = .ok (.istore_n 3, 1) := by decide +kernel
theorem d_Mo_isEven_4 : decode prog_7_method_36_code 4 = .ok (.iload_n 3, 1) := by decide +kernel
theorem d_Mo_isEven_5 : decode prog_7_method_36_code 5 = .ok (.iload_n 1, 1) := by decide +kernel
theorem d_Mo_isEven_6 : decode prog_7_method_36_code 6 = .ok (.if_icmp .ge 42, 3) := by decide +kernel
theorem d_Mo_isEven_9 : decode prog_7_method_36_code 9 = .ok (.iconst 0, 1) := by decide +kernel
theorem d_Mo_isEven_10 : decode prog_7_method_36_code 10 = .ok (.istore 4, 2) := by decide +kernel
theorem d_Mo_isEven_12 : decode prog_7_method_36_code 12 = .ok (.iload 4, 2) := by decide +kernel
theorem d_Mo_isEven_14 : decode prog_7_method_36_code 14 = .ok (.iload_n 3, 1) := by decide +kernel
theorem d_Mo_isEven_15 : decode prog_7_method_36_code 15 = .ok (.if_icmp .ge 27, 3) := by decide +kernel
theorem d_Mo_isEven_18 : decode prog_7_method_36_code 18 = .ok (.aload_n 0, 1) := by decide +kernel
theorem d_Mo_isEven_19 : decode prog_7_method_36_code 19 = .ok (.iload 4, 2) := by decide +kernel
theorem d_Mo_isEven_21 : decode prog_7_method_36_code 21 = .ok (.iaload, 1) := by decide +kernel
theorem d_Mo_isEven_22 : decode prog_7_method_36_code 22 = .ok (.aload_n 0, 1) := by decide +kernel
theorem d_Mo_isEven_23 : decode prog_7_method_36_code 23 = .ok (.iload_n 3, 1) := by decide +kernel
theorem d_Mo_isEven_24 : decode prog_7_method_36_code 24 = .ok (.iaload, 1) := by decide +kernel
theorem d_Mo_isEven_25 : decode prog_7_method_36_code 25 = .ok (.if_icmp .le 9, 3) := by decide +kernel
theorem d_Mo_isEven_28 : decode prog_7_method_36_code 28 = .ok (.iload_n 2, 1) := by decide +kernel
theorem d_Mo_isEven_29 : decode prog_7_method_36_code 29 = .ok (.iconst 1, 1) := by decide +kernel
theorem d_Mo_isEven_30 : decode prog_7_method_36_code 30 = .ok (.iadd, 1) := by decide +kernel
theorem d_Mo_isEven_31 : decode prog_7_method_36_code 31 = .ok (.goto 4, 3) := by decide +kernel
theorem d_Mo_isEven_34 : decode prog_7_method_36_code 34 = .ok (.iload_n 2, 1) := by decide +kernel
theorem d_Mo_isEven_35 : decode prog_7_method_36_code 35 = .ok (.istore_n 2, 1) := by decide +kernel
theorem d_Mo_isEven_36 : decode prog_7_method_36_code 36 = .ok (.iinc 4 1, 3) := by decide +kernel
theorem d_Mo_isEven_39 : decode prog_7_method_36_code 39 = .ok (.goto (-27), 3) := by decide +kernel
theorem d_Mo_isEven_42 : decode prog_7_method_36_code 42 = .ok (.iinc 3 1, 3) := by decide +kernel
theorem d_Mo_isEven_45 : decode prog_7_method_36_code 45 = .ok (.goto (-41), 3) := by decide +kernel
theorem d_Mo_isEven_48 : decode prog_7_method_36_code 48 = .ok (.iload_n 2, 1) := by decide +kernel
theorem d_Mo_isEven_49 : decode prog_7_method_36_code 49 = .ok (.iconst 2, 1) := by decide +kernel
theorem d_Mo_isEven_50 : decode prog_7_method_36_code 50 = .ok (.irem, 1) := by decide +kernel
theorem d_Mo_isEven_51 : decode prog_7_method_36_code 51 = .ok (.ifCond .ne 7, 3) := by decide +kernel
theorem d_Mo_isEven_54 : decode prog_7_method_36_code 54 = .ok (.iconst 1, 1) := by decide +kernel
theorem d_Mo_isEven_55 : decode prog_7_method_36_code 55 = .ok (.goto 4, 3) := by decide +kernel
theorem d_Mo_isEven_58 : decode prog_7_method_36_code 58 = .ok (.iconst 0, 1) := by decide +kernel
theorem d_Mo_isEven_59 : decode prog_7_method_36_code 59 = .ok (.ireturn, 1) := by decide +kernel
def f_R_isEven (row_n : Nat) (row : Nat → Int32) (n0 : Int32) : Option (Int32) :=
  ck_jn (fun (v2_1 : Int32) => ck_if ((v2_1 - v2_1 / 2 * 2) = 0) (some 1) (some 0)) <| fun k_48 => lo2 (fun k_4 (v3_3 : Int32) (v2_4 : Int32) => ck_if (n0 ≤ v3_3) (k_48 v2_4) (ck_jn (fun (v2_6 : Int32) => ck_nm (v3_3 + 1) <| fun x_7 => k_4 x_7 v2_6) <| fun k_42 => lo2 (fun k_12 (v4_8 : Int32) (v2_9 : Int32) => ck_if (v3_3 ≤ v4_8) (k_42 v2_9) (ck_in v4_8 row_n <| ck_in v3_3 row_n <| ck_jn (fun (s0_13 : Int32) => ck_nm (v4_8 + 1) <| fun x_14 => k_12 x_14 s0_13) <| fun k_35 => ck_if ((row v4_8.toNatClampNeg) ≤ (row v3_3.toNatClampNeg)) (k_35 v2_9) (k_35 (v2_9 + 1)))) ck_F 0 v2_4)) ck_F 0 0
set_option maxHeartbeats 4000000 in
set_option maxRecDepth 100000 in
theorem c_R_isEven (l : Launch) (dC : Nat → ClassId) (dI : Nat → Nat → Nat) (cI cJ cB cZ cT cN : ClassId) (sz : Nat) (h_row : Nat) (row_n : Nat) (row : Nat → Int32) (n0 : Int32) (r : Int32) (h : f_R_isEven row_n row n0 = some r) : Met l y_Mo_isEven w_Mo_isEven ({ frames := 0, cells := 0, slots := 0, locals := 0 } : Room) (va_Pc [.ref h_row, .int n0] (fun U => U.heap.size = sz ∧ va_P (dC, dI) cl_all [(h_row, .inl (cI, row_n, .inl row))] U.heap ∧ va_K (dC, dI) cl_all [(cI, .int), (cJ, .long), (cB, .byte), (cZ, .boolean), (cT, .object "BasisWalk$Table"), (cN, .object "BasisWalkModel$Num")] U ∧ NW U ∧ va_D (fun _ => True) [(h_row, .inl (cI, row_n, .inl row))])) (va_Qi (fun (v : Int32) (_ : Unit) => v = r) (fun (u : Unit) (t : State) => va_P (dC, dI) cl_all [(h_row, .inl (cI, row_n, .inl row))] t.heap ∧ va_K (dC, dI) cl_all [(cI, .int), (cJ, .long), (cB, .byte), (cZ, .boolean), (cT, .object "BasisWalk$Table"), (cN, .object "BasisWalkModel$Num")] t ∧ va_D (va_A [(h_row, .inl (cI, row_n, .inl row))] sz) [(h_row, .inl (cI, row_n, .inl row))]) (va_A [(h_row, .inl (cI, row_n, .inl row))] sz)) 0 0 (va_A [(h_row, .inl (cI, row_n, .inl row))] sz) := by
  refine Met.ofW (cc := prog_7_method_36_code) (maxL := 5) (ret := (Option.some Jvm.ClassFile.FieldType.boolean)) (by decide) rfl ?_
  intro p e s m args below meth c s₁ B hml hv
  obtain ⟨hAR, hsz, hP, hK, hN, hD0⟩ := hv
  have hx := B.exec
  have hb := B.bytes
  have hr := B.returns
  have hts := atoms_spec (ws := w_Mo_isEven) B.pre
  have hown : s.vm.findClass "BasisWalkModel" = some m.cls := findClass_of_methodNamed B.named
  have hlocks := B.notSynchronized
  clear B
  subst hsz
  have hD := hD0.self (sz := s.heap.size)
  generalize hAe : va_A [(h_row, .inl (cI, row_n, .inl row))] s.heap.size = A at hD ⊢
  have hA : ∀ q : Nat, s.heap.size ≤ q → A q := fun q h => by rw [← hAe]; exact Or.inr h
  clear hAe hD0
  have hS : va_S A s.heap s.heap [] := va_S.rf
  have hl := lv_entry ([.ref h_row, .int n0]) (n := 5) (Nat.le_of_ble_eq_true rfl)
  subst hAR
  rw [lg_entry_eq]
  generalize (lg_sl ([.ref h_row, .int n0]) ++ List.replicate (5 - (lg_sl ([.ref h_row, .int n0])).length) Slot.unset).toArray = ls at hl ⊢
  have hl : lv_has ls 5 [(0, .ref h_row), (1, .int n0)] := hl
  change W p l e ({ frames := 0, cells := 0, slots := 0, locals := 0 } : Room) s m _ below meth c s.heap [] 0 0 _ _
  generalize hARe : ([.ref h_row, .int n0] : List Value).toArray = AR at hts ⊢
  clear hARe
  generalize hQ : MQ below _ AR s 0 0 A = QQ
  obtain ⟨H, hHe⟩ : ∃ H : Heap, H = s.heap := ⟨_, rfl⟩
  rw [← hHe] at hP ⊢
  replace hS : va_S A s.heap H [] := by rw [hHe]; exact va_S.rf
  clear hHe
  unfold f_R_isEven at h
  refine lv_iconst (v := 0) hx hb d_Mo_isEven_0 (by decide) ?_
  refine lv_istore_n (lv' := [(2, .int 0), (0, .ref h_row), (1, .int n0)]) hx hb d_Mo_isEven_1 rfl hl (by decide) rfl (fun ls hl => ?_)
  refine lv_iconst (v := 0) hx hb d_Mo_isEven_2 (by decide) ?_
  refine lv_istore_n (lv' := [(3, .int 0), (2, .int 0), (0, .ref h_row), (1, .int n0)]) hx hb d_Mo_isEven_3 rfl hl (by decide) rfl (fun ls hl => ?_)
  refine ck_jn_W h (fun k' => ∀ (v2_1 : Int32), k' v2_1 = some r → ∀ (H : Heap) (locs : List Loc), va_P (dC, dI) cl_all [(h_row, .inl (cI, row_n, .inl row))] H → va_D A [(h_row, .inl (cI, row_n, .inl row))] → va_S A s.heap H locs → ∀ ls : Array Slot, lv_has ls 5 [(2, .int v2_1)] → W p l e ({ frames := 0, cells := 0, slots := 0, locals := 0 } : Room) s m AR below meth c H locs 0 0 QQ (F0 m 48 ls [])) ?_ ?_
  · intro v2_1 h H locs hP hD hS ls hl
    refine lv_iload_n hx hb d_Mo_isEven_48 rfl (lv_at hl 0 rfl) ?_
    refine lv_iconst (v := 2) hx hb d_Mo_isEven_49 (by decide) ?_
    refine lv_irem hx hb d_Mo_isEven_50 (by decide) ?_
    refine lv_if_ne (tgt := 58) hx hb d_Mo_isEven_51 (by decide) (fun c_2 => ?_) (fun c_2 => ?_)
    · replace h := ck_if_f h c_2
      refine lv_iconst (v := 0) hx hb d_Mo_isEven_58 (by decide) ?_
      obtain rfl := Option.some.inj h
      subst hQ
      exact W.zret (ty := .boolean) (v := 0) hx hb hr rfl (fun t ht hW => ⟨⟨0, (), rfl, rfl, by rw [ht]; exact hP, va_K.moved hW.alike hK, hD⟩, hS.F ht⟩) hS.2.2 d_Mo_isEven_59
    · replace h := ck_if_t h c_2
      refine lv_iconst (v := 1) hx hb d_Mo_isEven_54 (by decide) ?_
      refine lv_goto (tgt := 59) hx hb d_Mo_isEven_55 (by decide) ?_
      obtain rfl := Option.some.inj h
      subst hQ
      exact W.zret (ty := .boolean) (v := 1) hx hb hr rfl (fun t ht hW => ⟨⟨1, (), rfl, rfl, by rw [ht]; exact hP, va_K.moved hW.alike hK, hD⟩, hS.F ht⟩) hS.2.2 d_Mo_isEven_59
  · intro k_48 J_48 h
    refine lo2_W (r := r) (fun (v3_3 : Int32) (v2_4 : Int32) => ∀ (H : Heap) (locs : List Loc), va_P (dC, dI) cl_all [(h_row, .inl (cI, row_n, .inl row))] H → va_D A [(h_row, .inl (cI, row_n, .inl row))] → va_S A s.heap H locs → ∀ ls : Array Slot, lv_has ls 5 [(0, .ref h_row), (1, .int n0), (2, .int v2_4), (3, .int v3_3)] → W p l e ({ frames := 0, cells := 0, slots := 0, locals := 0 } : Room) s m AR below meth c H locs 0 0 QQ (F0 m 4 ls [])) ?_ _ _ _ h _ _ hP hD hS _ (lv_sub hl [2, 3, 1, 0] rfl)
    intro k_4 v3_3 v2_4 J_4 h H locs hP hD hS ls hl
    refine lv_iload_n hx hb d_Mo_isEven_4 rfl (lv_at hl 3 rfl) ?_
    refine lv_iload_n hx hb d_Mo_isEven_5 rfl (lv_at hl 1 rfl) ?_
    refine lv_icmp_ge (tgt := 48) hx hb d_Mo_isEven_6 (by decide) (fun c_5 => ?_) (fun c_5 => ?_)
    · replace h := ck_if_t h c_5
      exact J_48 _ h _ _ hP hD hS _ (lv_sub hl [2] rfl)
    · replace h := ck_if_f h c_5
      refine lv_iconst (v := 0) hx hb d_Mo_isEven_9 (by decide) ?_
      refine lv_istore (lv' := [(4, .int 0), (0, .ref h_row), (1, .int n0), (2, .int v2_4), (3, .int v3_3)]) hx hb d_Mo_isEven_10 hl (by decide) rfl (fun ls hl => ?_)
      refine ck_jn_W h (fun k' => ∀ (v2_6 : Int32), k' v2_6 = some r → ∀ (H : Heap) (locs : List Loc), va_P (dC, dI) cl_all [(h_row, .inl (cI, row_n, .inl row))] H → va_D A [(h_row, .inl (cI, row_n, .inl row))] → va_S A s.heap H locs → ∀ ls : Array Slot, lv_has ls 5 [(0, .ref h_row), (1, .int n0), (2, .int v2_6), (3, .int v3_3)] → W p l e ({ frames := 0, cells := 0, slots := 0, locals := 0 } : Room) s m AR below meth c H locs 0 0 QQ (F0 m 42 ls [])) ?_ ?_
      · intro v2_6 h H locs hP hD hS ls hl
        obtain ⟨x_7, ex_7⟩ : ∃ y : Int32, y = v3_3 + 1 := ⟨_, rfl⟩
        replace h := ck_nm_s h ex_7
        refine lv_iinc (v := x_7) (lv' := [(3, .int x_7), (0, .ref h_row), (1, .int n0), (2, .int v2_6)]) hx hb d_Mo_isEven_42 hl (k := 3) rfl (by rw [ex_7]; rfl) (by decide) rfl (fun ls hl => ?_)
        refine lv_goto (tgt := 4) hx hb d_Mo_isEven_45 (by decide) ?_
        exact J_4 _ _ h _ _ hP hD hS _ (lv_sub hl [1, 2, 3, 0] rfl)
      · intro k_42 J_42 h
        refine lo2_W (r := r) (fun (v4_8 : Int32) (v2_9 : Int32) => ∀ (H : Heap) (locs : List Loc), va_P (dC, dI) cl_all [(h_row, .inl (cI, row_n, .inl row))] H → va_D A [(h_row, .inl (cI, row_n, .inl row))] → va_S A s.heap H locs → ∀ ls : Array Slot, lv_has ls 5 [(0, .ref h_row), (1, .int n0), (2, .int v2_9), (3, .int v3_3), (4, .int v4_8)] → W p l e ({ frames := 0, cells := 0, slots := 0, locals := 0 } : Room) s m AR below meth c H locs 0 0 QQ (F0 m 12 ls [])) ?_ _ _ _ h _ _ hP hD hS _ (lv_sub hl [1, 2, 3, 4, 0] rfl)
        intro k_12 v4_8 v2_9 J_12 h H locs hP hD hS ls hl
        refine lv_iload hx hb d_Mo_isEven_12 (lv_at hl 4 rfl) ?_
        refine lv_iload_n hx hb d_Mo_isEven_14 rfl (lv_at hl 3 rfl) ?_
        refine lv_icmp_ge (tgt := 42) hx hb d_Mo_isEven_15 (by decide) (fun c_10 => ?_) (fun c_10 => ?_)
        · replace h := ck_if_t h c_10
          exact J_42 _ h _ _ hP hD hS _ (lv_sub hl [0, 1, 2, 3] rfl)
        · replace h := ck_if_f h c_10
          refine lv_aload_n hx hb d_Mo_isEven_18 rfl (lv_at hl 0 rfl) ?_
          refine lv_iload hx hb d_Mo_isEven_19 (lv_at hl 4 rfl) ?_
          obtain ⟨g_11, h⟩ := ck_in_s h
          refine va_iald hx hb hK hP 0 0 rfl rfl g_11 d_Mo_isEven_21 ?_
          refine lv_aload_n hx hb d_Mo_isEven_22 rfl (lv_at hl 0 rfl) ?_
          refine lv_iload_n hx hb d_Mo_isEven_23 rfl (lv_at hl 3 rfl) ?_
          obtain ⟨g_12, h⟩ := ck_in_s h
          refine va_iald hx hb hK hP 0 0 rfl rfl g_12 d_Mo_isEven_24 ?_
          refine ck_jn_W h (fun k' => ∀ (s0_13 : Int32), k' s0_13 = some r → ∀ (H : Heap) (locs : List Loc), va_P (dC, dI) cl_all [(h_row, .inl (cI, row_n, .inl row))] H → va_D A [(h_row, .inl (cI, row_n, .inl row))] → va_S A s.heap H locs → ∀ ls : Array Slot, lv_has ls 5 [(0, .ref h_row), (1, .int n0), (3, .int v3_3), (4, .int v4_8)] → W p l e ({ frames := 0, cells := 0, slots := 0, locals := 0 } : Room) s m AR below meth c H locs 0 0 QQ (F0 m 35 ls [.int s0_13])) ?_ ?_
          · intro s0_13 h H locs hP hD hS ls hl
            refine lv_istore_n (lv' := [(2, .int s0_13), (0, .ref h_row), (1, .int n0), (3, .int v3_3), (4, .int v4_8)]) hx hb d_Mo_isEven_35 rfl hl (by decide) rfl (fun ls hl => ?_)
            obtain ⟨x_14, ex_14⟩ : ∃ y : Int32, y = v4_8 + 1 := ⟨_, rfl⟩
            replace h := ck_nm_s h ex_14
            refine lv_iinc (v := x_14) (lv' := [(4, .int x_14), (2, .int s0_13), (0, .ref h_row), (1, .int n0), (3, .int v3_3)]) hx hb d_Mo_isEven_36 hl (k := 4) rfl (by rw [ex_14]; rfl) (by decide) rfl (fun ls hl => ?_)
            refine lv_goto (tgt := 12) hx hb d_Mo_isEven_39 (by decide) ?_
            exact J_12 _ _ h _ _ hP hD hS _ (lv_sub hl [2, 3, 1, 4, 0] rfl)
          · intro k_35 J_35 h
            refine lv_icmp_le (tgt := 34) hx hb d_Mo_isEven_25 (by decide) (fun c_15 => ?_) (fun c_15 => ?_)
            · replace h := ck_if_t h c_15
              refine lv_iload_n hx hb d_Mo_isEven_34 rfl (lv_at hl 2 rfl) ?_
              exact J_35 _ h _ _ hP hD hS _ (lv_sub hl [0, 1, 3, 4] rfl)
            · replace h := ck_if_f h c_15
              refine lv_iload_n hx hb d_Mo_isEven_28 rfl (lv_at hl 2 rfl) ?_
              refine lv_iconst (v := 1) hx hb d_Mo_isEven_29 (by decide) ?_
              refine lv_iadd hx hb d_Mo_isEven_30 ?_
              refine lv_goto (tgt := 35) hx hb d_Mo_isEven_31 (by decide) ?_
              exact J_35 _ h _ _ hP hD hS _ (lv_sub hl [0, 1, 3, 4] rfl)
theorem d_Mo_determinantOf_0 : decode prog_7_method_38_code 0 = .ok (.iconst 0, 1) := by decide +kernel
theorem d_Mo_determinantOf_1 : decode prog_7_method_38_code 1 = .ok (.istore 4, 2) := by decide +kernel
theorem d_Mo_determinantOf_3 : decode prog_7_method_38_code 3 = .ok (.iconst 0, 1) := by decide +kernel
theorem d_Mo_determinantOf_4 : decode prog_7_method_38_code 4 = .ok (.istore 5, 2) := by decide +kernel
theorem d_Mo_determinantOf_6 : decode prog_7_method_38_code 6 = .ok (.iload 5, 2) := by decide +kernel
theorem d_Mo_determinantOf_8 : decode prog_7_method_38_code 8 = .ok (.iconst 2, 1) := by decide +kernel
theorem d_Mo_determinantOf_9 : decode prog_7_method_38_code 9 = .ok (.if_icmp .ge 60, 3) := by decide +kernel
theorem d_Mo_determinantOf_12 : decode prog_7_method_38_code 12 = .ok (.iconst 0, 1) := by decide +kernel
theorem d_Mo_determinantOf_13 : decode prog_7_method_38_code 13 = .ok (.istore 6, 2) := by decide +kernel
theorem d_Mo_determinantOf_15 : decode prog_7_method_38_code 15 = .ok (.iload 6, 2) := by decide +kernel
theorem d_Mo_determinantOf_17 : decode prog_7_method_38_code 17 = .ok (.aload_n 0, 1) := by decide +kernel
theorem d_Mo_determinantOf_18 : decode prog_7_method_38_code 18 = .ok (.getfield 159, 3) := by decide +kernel
theorem d_Mo_determinantOf_21 : decode prog_7_method_38_code 21 = .ok (.iload_n 1, 1) := by decide +kernel
theorem d_Mo_determinantOf_22 : decode prog_7_method_38_code 22 = .ok (.iaload, 1) := by decide +kernel
theorem d_Mo_determinantOf_23 : decode prog_7_method_38_code 23 = .ok (.if_icmp .ge 40, 3) := by decide +kernel
theorem d_Mo_determinantOf_26 : decode prog_7_method_38_code 26 = .ok (.iload 5, 2) := by decide +kernel
theorem d_Mo_determinantOf_28 : decode prog_7_method_38_code 28 = .ok (.ifCond .ne 7, 3) := by decide +kernel
theorem d_Mo_determinantOf_31 : decode prog_7_method_38_code 31 = .ok (.iload_n 2, 1) := by decide +kernel
theorem d_Mo_determinantOf_32 : decode prog_7_method_38_code 32 = .ok (.goto 4, 3) := by decide +kernel
theorem d_Mo_determinantOf_35 : decode prog_7_method_38_code 35 = .ok (.iload_n 3, 1) := by decide +kernel
theorem d_Mo_determinantOf_36 : decode prog_7_method_38_code 36 = .ok (.iload 6, 2) := by decide +kernel
theorem d_Mo_determinantOf_38 : decode prog_7_method_38_code 38 = .ok (.ishr, 1) := by decide +kernel
theorem d_Mo_determinantOf_39 : decode prog_7_method_38_code 39 = .ok (.iconst 1, 1) := by decide +kernel
theorem d_Mo_determinantOf_40 : decode prog_7_method_38_code 40 = .ok (.iand, 1) := by decide +kernel
theorem d_Mo_determinantOf_41 : decode prog_7_method_38_code 41 = .ok (.iconst 1, 1) := by decide +kernel
theorem d_Mo_determinantOf_42 : decode prog_7_method_38_code 42 = .ok (.if_icmp .ne 15, 3) := by decide +kernel
theorem d_Mo_determinantOf_45 : decode prog_7_method_38_code 45 = .ok (.aload_n 0, 1) := by decide +kernel
theorem d_Mo_determinantOf_46 : decode prog_7_method_38_code 46 = .ok (.getfield 192, 3) := by decide +kernel
theorem d_Mo_determinantOf_49 : decode prog_7_method_38_code 49 = .ok (.iload 4, 2) := by decide +kernel
theorem d_Mo_determinantOf_51 : decode prog_7_method_38_code 51 = .ok (.iload 6, 2) := by decide +kernel
theorem d_Mo_determinantOf_53 : decode prog_7_method_38_code 53 = .ok (.iastore, 1) := by decide +kernel
theorem d_Mo_determinantOf_54 : decode prog_7_method_38_code 54 = .ok (.iinc 4 1, 3) := by decide +kernel
theorem d_Mo_determinantOf_57 : decode prog_7_method_38_code 57 = .ok (.iinc 6 1, 3) := by decide +kernel
theorem d_Mo_determinantOf_60 : decode prog_7_method_38_code 60 = .ok (.goto (-45), 3) := by decide +kernel
theorem d_Mo_determinantOf_63 : decode prog_7_method_38_code 63 = .ok (.iinc 5 1, 3) := by decide +kernel
theorem d_Mo_determinantOf_66 : decode prog_7_method_38_code 66 = .ok (.goto (-60), 3) := by decide +kernel
theorem d_Mo_determinantOf_69 : decode prog_7_method_38_code 69 = .ok (.aload_n 0, 1) := by decide +kernel
theorem d_Mo_determinantOf_70 : decode prog_7_method_38_code 70 = .ok (.getfield 176, 3) := by decide +kernel
theorem d_Mo_determinantOf_73 : decode prog_7_method_38_code 73 = .ok (.sipush 4096, 3) := by decide +kernel
theorem d_Mo_determinantOf_76 : decode prog_7_method_38_code 76 = .ok (.iload_n 1, 1) := by decide +kernel
theorem d_Mo_determinantOf_77 : decode prog_7_method_38_code 77 = .ok (.imul, 1) := by decide +kernel
theorem d_Mo_determinantOf_78 : decode prog_7_method_38_code 78 = .ok (.iload_n 2, 1) := by decide +kernel
theorem d_Mo_determinantOf_79 : decode prog_7_method_38_code 79 = .ok (.iload_n 3, 1) := by decide +kernel
theorem d_Mo_determinantOf_80 : decode prog_7_method_38_code 80 = .ok (.ior, 1) := by decide +kernel
theorem d_Mo_determinantOf_81 : decode prog_7_method_38_code 81 = .ok (.iadd, 1) := by decide +kernel
theorem d_Mo_determinantOf_82 : decode prog_7_method_38_code 82 = .ok (.baload, 1) := by decide +kernel
theorem d_Mo_determinantOf_83 : decode prog_7_method_38_code 83 = .ok (.istore 5, 2) := by decide +kernel
theorem d_Mo_determinantOf_85 : decode prog_7_method_38_code 85 = .ok (.aload_n 0, 1) := by decide +kernel
theorem d_Mo_determinantOf_86 : decode prog_7_method_38_code 86 = .ok (.getfield 192, 3) := by decide +kernel
theorem d_Mo_determinantOf_89 : decode prog_7_method_38_code 89 = .ok (.iload 4, 2) := by decide +kernel
theorem d_Mo_determinantOf_91 : decode prog_7_method_38_code 91 = .ok (.invokestatic 250, 3) := by decide +kernel
theorem d_Mo_determinantOf_94 : decode prog_7_method_38_code 94 = .ok (.ifCond .eq 8, 3) := by decide +kernel
theorem d_Mo_determinantOf_97 : decode prog_7_method_38_code 97 = .ok (.iload 5, 2) := by decide +kernel
theorem d_Mo_determinantOf_99 : decode prog_7_method_38_code 99 = .ok (.goto 6, 3) := by decide +kernel
theorem d_Mo_determinantOf_102 : decode prog_7_method_38_code 102 = .ok (.iload 5, 2) := by decide +kernel
theorem d_Mo_determinantOf_104 : decode prog_7_method_38_code 104 = .ok (.ineg, 1) := by decide +kernel
theorem d_Mo_determinantOf_105 : decode prog_7_method_38_code 105 = .ok (.ireturn, 1) := by decide +kernel
def f_R_determinantOf (m_signOf_n : Nat) (m_signOf : Nat → Int32) (m_elements_n : Nat) (m_elements : Nat → Int32) (m_sorted_n : Nat) (m_sorted : Nat → Int32) (k0 : Int32) (front0 : Int32) (behind0 : Int32) : Option (Int32 × (Nat → Int32)) :=
  ck_jn (fun (v4_1 : Int32) (w_2 : Nat → Int32) => ck_in ((4096 * k0) + (front0 ||| behind0)) m_signOf_n <| ck_nm (m_signOf ((4096 * k0) + (front0 ||| behind0)).toNatClampNeg) <| fun x_4 => ck_b1 (f_R_isEven m_sorted_n w_2 v4_1) <| fun r_5 => ck_if (r_5 = 0) (some ((-x_4), w_2)) (some (x_4, w_2))) <| fun k_69 => lo3 (fun k_6 (v5_8 : Int32) (v4_9 : Int32) (w_10 : Nat → Int32) => ck_if (2 ≤ v5_8) (k_69 v4_9 w_10) (ck_jn (fun (v4_12 : Int32) (w_13 : Nat → Int32) => ck_nm (v5_8 + 1) <| fun x_14 => k_6 x_14 v4_12 w_13) <| fun k_63 => lo3 (fun k_15 (v6_15 : Int32) (v4_16 : Int32) (w_17 : Nat → Int32) => ck_in k0 m_elements_n <| ck_if ((m_elements k0.toNatClampNeg) ≤ v6_15) (k_63 v4_16 w_17) (ck_jn (fun (s0_20 : Int32) => ck_jn (fun (v4_21 : Int32) (w_22 : Nat → Int32) => ck_nm (v6_15 + 1) <| fun x_23 => k_15 x_23 v4_21 w_22) <| fun k_57 => ck_if (((s0_20 >>> (v6_15 &&& 31)) &&& 1) = 1) (ck_in v4_16 m_sorted_n <| ck_nm (v4_16 + 1) <| fun x_26 => k_57 x_26 (upd w_17 v4_16.toNatClampNeg v6_15)) (k_57 v4_16 w_17)) <| fun k_36 => ck_if (v5_8 = 0) (k_36 front0) (k_36 behind0))) ck_F 0 v4_9 w_10)) ck_F 0 0 m_sorted
set_option maxHeartbeats 4000000 in
set_option maxRecDepth 100000 in
theorem c_R_determinantOf (l : Launch) (dC : Nat → ClassId) (dI : Nat → Nat → Nat) (cI cJ cB cZ cT cN : ClassId) (sz : Nat) (h_m : Nat) (h_m_one : Nat) (h_m_two : Nat) (h_m_three : Nat) (h_m_four : Nat) (h_m_five : Nat) (h_m_six : Nat) (h_m_seven : Nat) (h_m_eight : Nat) (h_m_work : Nat) (h_m_small : Nat) (h_m_pivots : Nat) (h_m_freeRows : Nat) (h_m_freeColumns : Nat) (h_m_minor : Nat) (h_m_smallMinor : Nat) (h_m_fields : Nat) (h_m_rowCounts : Nat) (h_m_elements : Nat) (h_m_numbers : Nat) (h_m_known : Nat) (h_m_ranks : Nat) (h_m_rankOf : Nat) (h_m_signOf : Nat) (h_m_order : Nat) (h_m_sizes : Nat) (h_m_coefficients : Nat) (h_m_choices : Nat) (h_m_sorted : Nat) (m_rows : Int32) (m_columns : Int32) (m_prime : Int32) (m_signOf_n : Nat) (m_signOf : Nat → Int32) (m_elements_n : Nat) (m_elements : Nat → Int32) (m_sorted_n : Nat) (m_sorted : Nat → Int32) (k0 : Int32) (front0 : Int32) (behind0 : Int32) (r : Int32 × (Nat → Int32)) (h : f_R_determinantOf m_signOf_n m_signOf m_elements_n m_elements m_sorted_n m_sorted k0 front0 behind0 = some r) : Met l y_Mo_determinantOf w_Mo_determinantOf ({ frames := 1, cells := 0, slots := 0, locals := 24 } : Room) (va_Pc [.ref h_m, .int k0, .int front0, .int behind0] (fun U => U.heap.size = sz ∧ va_P (dC, dI) cl_all [(h_m, .inr (6, [.ref h_m_one, .ref h_m_two, .ref h_m_three, .ref h_m_four, .ref h_m_five, .ref h_m_six, .ref h_m_seven, .ref h_m_eight, .ref h_m_work, .ref h_m_small, .int m_rows, .int m_columns, .int m_prime, .ref h_m_pivots, .ref h_m_freeRows, .ref h_m_freeColumns, .ref h_m_minor, .ref h_m_smallMinor, .ref h_m_fields, .ref h_m_rowCounts, .ref h_m_elements, .ref h_m_numbers, .ref h_m_known, .ref h_m_ranks, .ref h_m_rankOf, .ref h_m_signOf, .ref h_m_order, .ref h_m_sizes, .ref h_m_coefficients, .ref h_m_choices, .ref h_m_sorted])), (h_m_signOf, .inl (cB, m_signOf_n, .inl m_signOf)), (h_m_elements, .inl (cI, m_elements_n, .inl m_elements)), (h_m_sorted, .inl (cI, m_sorted_n, .inl m_sorted))] U.heap ∧ va_K (dC, dI) cl_all [(cI, .int), (cJ, .long), (cB, .byte), (cZ, .boolean), (cT, .object "BasisWalk$Table"), (cN, .object "BasisWalkModel$Num")] U ∧ NW U ∧ va_D (fun _ => True) [(h_m, .inr (6, [.ref h_m_one, .ref h_m_two, .ref h_m_three, .ref h_m_four, .ref h_m_five, .ref h_m_six, .ref h_m_seven, .ref h_m_eight, .ref h_m_work, .ref h_m_small, .int m_rows, .int m_columns, .int m_prime, .ref h_m_pivots, .ref h_m_freeRows, .ref h_m_freeColumns, .ref h_m_minor, .ref h_m_smallMinor, .ref h_m_fields, .ref h_m_rowCounts, .ref h_m_elements, .ref h_m_numbers, .ref h_m_known, .ref h_m_ranks, .ref h_m_rankOf, .ref h_m_signOf, .ref h_m_order, .ref h_m_sizes, .ref h_m_coefficients, .ref h_m_choices, .ref h_m_sorted])), (h_m_signOf, .inl (cB, m_signOf_n, .inl m_signOf)), (h_m_elements, .inl (cI, m_elements_n, .inl m_elements)), (h_m_sorted, .inl (cI, m_sorted_n, .inl m_sorted))])) (va_Qi (fun (v : Int32) (u : (Nat → Int32)) => (v, u) = r) (fun (u : (Nat → Int32)) (t : State) => va_P (dC, dI) cl_all [(h_m, .inr (6, [.ref h_m_one, .ref h_m_two, .ref h_m_three, .ref h_m_four, .ref h_m_five, .ref h_m_six, .ref h_m_seven, .ref h_m_eight, .ref h_m_work, .ref h_m_small, .int m_rows, .int m_columns, .int m_prime, .ref h_m_pivots, .ref h_m_freeRows, .ref h_m_freeColumns, .ref h_m_minor, .ref h_m_smallMinor, .ref h_m_fields, .ref h_m_rowCounts, .ref h_m_elements, .ref h_m_numbers, .ref h_m_known, .ref h_m_ranks, .ref h_m_rankOf, .ref h_m_signOf, .ref h_m_order, .ref h_m_sizes, .ref h_m_coefficients, .ref h_m_choices, .ref h_m_sorted])), (h_m_signOf, .inl (cB, m_signOf_n, .inl m_signOf)), (h_m_elements, .inl (cI, m_elements_n, .inl m_elements)), (h_m_sorted, .inl (cI, m_sorted_n, .inl u))] t.heap ∧ va_K (dC, dI) cl_all [(cI, .int), (cJ, .long), (cB, .byte), (cZ, .boolean), (cT, .object "BasisWalk$Table"), (cN, .object "BasisWalkModel$Num")] t ∧ va_D (va_A [(h_m, .inr (6, [.ref h_m_one, .ref h_m_two, .ref h_m_three, .ref h_m_four, .ref h_m_five, .ref h_m_six, .ref h_m_seven, .ref h_m_eight, .ref h_m_work, .ref h_m_small, .int m_rows, .int m_columns, .int m_prime, .ref h_m_pivots, .ref h_m_freeRows, .ref h_m_freeColumns, .ref h_m_minor, .ref h_m_smallMinor, .ref h_m_fields, .ref h_m_rowCounts, .ref h_m_elements, .ref h_m_numbers, .ref h_m_known, .ref h_m_ranks, .ref h_m_rankOf, .ref h_m_signOf, .ref h_m_order, .ref h_m_sizes, .ref h_m_coefficients, .ref h_m_choices, .ref h_m_sorted])), (h_m_signOf, .inl (cB, m_signOf_n, .inl m_signOf)), (h_m_elements, .inl (cI, m_elements_n, .inl m_elements)), (h_m_sorted, .inl (cI, m_sorted_n, .inl m_sorted))] sz) [(h_m, .inr (6, [.ref h_m_one, .ref h_m_two, .ref h_m_three, .ref h_m_four, .ref h_m_five, .ref h_m_six, .ref h_m_seven, .ref h_m_eight, .ref h_m_work, .ref h_m_small, .int m_rows, .int m_columns, .int m_prime, .ref h_m_pivots, .ref h_m_freeRows, .ref h_m_freeColumns, .ref h_m_minor, .ref h_m_smallMinor, .ref h_m_fields, .ref h_m_rowCounts, .ref h_m_elements, .ref h_m_numbers, .ref h_m_known, .ref h_m_ranks, .ref h_m_rankOf, .ref h_m_signOf, .ref h_m_order, .ref h_m_sizes, .ref h_m_coefficients, .ref h_m_choices, .ref h_m_sorted])), (h_m_signOf, .inl (cB, m_signOf_n, .inl m_signOf)), (h_m_elements, .inl (cI, m_elements_n, .inl m_elements)), (h_m_sorted, .inl (cI, m_sorted_n, .inl u))]) (va_A [(h_m, .inr (6, [.ref h_m_one, .ref h_m_two, .ref h_m_three, .ref h_m_four, .ref h_m_five, .ref h_m_six, .ref h_m_seven, .ref h_m_eight, .ref h_m_work, .ref h_m_small, .int m_rows, .int m_columns, .int m_prime, .ref h_m_pivots, .ref h_m_freeRows, .ref h_m_freeColumns, .ref h_m_minor, .ref h_m_smallMinor, .ref h_m_fields, .ref h_m_rowCounts, .ref h_m_elements, .ref h_m_numbers, .ref h_m_known, .ref h_m_ranks, .ref h_m_rankOf, .ref h_m_signOf, .ref h_m_order, .ref h_m_sizes, .ref h_m_coefficients, .ref h_m_choices, .ref h_m_sorted])), (h_m_signOf, .inl (cB, m_signOf_n, .inl m_signOf)), (h_m_elements, .inl (cI, m_elements_n, .inl m_elements)), (h_m_sorted, .inl (cI, m_sorted_n, .inl m_sorted))] sz)) 0 0 (va_A [(h_m, .inr (6, [.ref h_m_one, .ref h_m_two, .ref h_m_three, .ref h_m_four, .ref h_m_five, .ref h_m_six, .ref h_m_seven, .ref h_m_eight, .ref h_m_work, .ref h_m_small, .int m_rows, .int m_columns, .int m_prime, .ref h_m_pivots, .ref h_m_freeRows, .ref h_m_freeColumns, .ref h_m_minor, .ref h_m_smallMinor, .ref h_m_fields, .ref h_m_rowCounts, .ref h_m_elements, .ref h_m_numbers, .ref h_m_known, .ref h_m_ranks, .ref h_m_rankOf, .ref h_m_signOf, .ref h_m_order, .ref h_m_sizes, .ref h_m_coefficients, .ref h_m_choices, .ref h_m_sorted])), (h_m_signOf, .inl (cB, m_signOf_n, .inl m_signOf)), (h_m_elements, .inl (cI, m_elements_n, .inl m_elements)), (h_m_sorted, .inl (cI, m_sorted_n, .inl m_sorted))] sz) := by
  refine Met.ofW (cc := prog_7_method_38_code) (maxL := 7) (ret := (Option.some Jvm.ClassFile.FieldType.int)) (by decide) rfl ?_
  intro p e s m args below meth c s₁ B hml hv
  obtain ⟨hAR, hsz, hP, hK, hN, hD0⟩ := hv
  have hx := B.exec
  have hb := B.bytes
  have hr := B.returns
  have hts := atoms_spec (ws := w_Mo_determinantOf) B.pre
  have hown : s.vm.findClass "BasisWalkModel" = some m.cls := findClass_of_methodNamed B.named
  have hlocks := B.notSynchronized
  clear B
  subst hsz
  have hD := hD0.self (sz := s.heap.size)
  generalize hAe : va_A [(h_m, .inr (6, [.ref h_m_one, .ref h_m_two, .ref h_m_three, .ref h_m_four, .ref h_m_five, .ref h_m_six, .ref h_m_seven, .ref h_m_eight, .ref h_m_work, .ref h_m_small, .int m_rows, .int m_columns, .int m_prime, .ref h_m_pivots, .ref h_m_freeRows, .ref h_m_freeColumns, .ref h_m_minor, .ref h_m_smallMinor, .ref h_m_fields, .ref h_m_rowCounts, .ref h_m_elements, .ref h_m_numbers, .ref h_m_known, .ref h_m_ranks, .ref h_m_rankOf, .ref h_m_signOf, .ref h_m_order, .ref h_m_sizes, .ref h_m_coefficients, .ref h_m_choices, .ref h_m_sorted])), (h_m_signOf, .inl (cB, m_signOf_n, .inl m_signOf)), (h_m_elements, .inl (cI, m_elements_n, .inl m_elements)), (h_m_sorted, .inl (cI, m_sorted_n, .inl m_sorted))] s.heap.size = A at hD ⊢
  have hA : ∀ q : Nat, s.heap.size ≤ q → A q := fun q h => by rw [← hAe]; exact Or.inr h
  clear hAe hD0
  have hS : va_S A s.heap s.heap [] := va_S.rf
  have hl := lv_entry ([.ref h_m, .int k0, .int front0, .int behind0]) (n := 7) (Nat.le_of_ble_eq_true rfl)
  subst hAR
  rw [lg_entry_eq]
  generalize (lg_sl ([.ref h_m, .int k0, .int front0, .int behind0]) ++ List.replicate (7 - (lg_sl ([.ref h_m, .int k0, .int front0, .int behind0])).length) Slot.unset).toArray = ls at hl ⊢
  have hl : lv_has ls 7 [(0, .ref h_m), (1, .int k0), (2, .int front0), (3, .int behind0)] := hl
  change W p l e ({ frames := 1, cells := 0, slots := 0, locals := 24 } : Room) s m _ below meth c s.heap [] 0 0 _ _
  generalize hARe : ([.ref h_m, .int k0, .int front0, .int behind0] : List Value).toArray = AR at hts ⊢
  clear hARe
  generalize hQ : MQ below _ AR s 0 0 A = QQ
  have fl0 := hts _ (List.mem_cons_of_mem _ tw_380)
  have iw1 := (fun w hw => List.mem_cons_of_mem _ (in_Mo w hw) : ∀ w ∈ u_ws "BasisWalkModel" T_Mo 31, w ∈ w_Mo_determinantOf)
  have fl2 := hts _ (List.mem_cons_of_mem _ tw_385)
  have fl3 := hts _ (List.mem_cons_of_mem _ tw_375)
  obtain ⟨H, hHe⟩ : ∃ H : Heap, H = s.heap := ⟨_, rfl⟩
  rw [← hHe] at hP ⊢
  replace hS : va_S A s.heap H [] := by rw [hHe]; exact va_S.rf
  clear hHe
  unfold f_R_determinantOf at h
  refine lv_iconst (v := 0) hx hb d_Mo_determinantOf_0 (by decide) ?_
  refine lv_istore (lv' := [(4, .int 0), (0, .ref h_m), (1, .int k0), (2, .int front0), (3, .int behind0)]) hx hb d_Mo_determinantOf_1 hl (by decide) rfl (fun ls hl => ?_)
  refine lv_iconst (v := 0) hx hb d_Mo_determinantOf_3 (by decide) ?_
  refine lv_istore (lv' := [(5, .int 0), (4, .int 0), (0, .ref h_m), (1, .int k0), (2, .int front0), (3, .int behind0)]) hx hb d_Mo_determinantOf_4 hl (by decide) rfl (fun ls hl => ?_)
  refine ck_jn_W h (fun k' => ∀ (v4_1 : Int32) (w_2 : Nat → Int32), k' v4_1 w_2 = some r → ∀ (H : Heap) (locs : List Loc), va_P (dC, dI) cl_all [(h_m, .inr (6, [.ref h_m_one, .ref h_m_two, .ref h_m_three, .ref h_m_four, .ref h_m_five, .ref h_m_six, .ref h_m_seven, .ref h_m_eight, .ref h_m_work, .ref h_m_small, .int m_rows, .int m_columns, .int m_prime, .ref h_m_pivots, .ref h_m_freeRows, .ref h_m_freeColumns, .ref h_m_minor, .ref h_m_smallMinor, .ref h_m_fields, .ref h_m_rowCounts, .ref h_m_elements, .ref h_m_numbers, .ref h_m_known, .ref h_m_ranks, .ref h_m_rankOf, .ref h_m_signOf, .ref h_m_order, .ref h_m_sizes, .ref h_m_coefficients, .ref h_m_choices, .ref h_m_sorted])), (h_m_signOf, .inl (cB, m_signOf_n, .inl m_signOf)), (h_m_elements, .inl (cI, m_elements_n, .inl m_elements)), (h_m_sorted, .inl (cI, m_sorted_n, .inl w_2))] H → va_D A [(h_m, .inr (6, [.ref h_m_one, .ref h_m_two, .ref h_m_three, .ref h_m_four, .ref h_m_five, .ref h_m_six, .ref h_m_seven, .ref h_m_eight, .ref h_m_work, .ref h_m_small, .int m_rows, .int m_columns, .int m_prime, .ref h_m_pivots, .ref h_m_freeRows, .ref h_m_freeColumns, .ref h_m_minor, .ref h_m_smallMinor, .ref h_m_fields, .ref h_m_rowCounts, .ref h_m_elements, .ref h_m_numbers, .ref h_m_known, .ref h_m_ranks, .ref h_m_rankOf, .ref h_m_signOf, .ref h_m_order, .ref h_m_sizes, .ref h_m_coefficients, .ref h_m_choices, .ref h_m_sorted])), (h_m_signOf, .inl (cB, m_signOf_n, .inl m_signOf)), (h_m_elements, .inl (cI, m_elements_n, .inl m_elements)), (h_m_sorted, .inl (cI, m_sorted_n, .inl w_2))] → va_S A s.heap H locs → ∀ ls : Array Slot, lv_has ls 7 [(0, .ref h_m), (1, .int k0), (2, .int front0), (3, .int behind0), (4, .int v4_1)] → W p l e ({ frames := 1, cells := 0, slots := 0, locals := 24 } : Room) s m AR below meth c H locs 0 0 QQ (F0 m 69 ls [])) ?_ ?_
  · intro v4_1 w_2 h H locs hP hD hS ls hl
    refine lv_aload_n hx hb d_Mo_determinantOf_69 rfl (lv_at hl 0 rfl) ?_
    refine va_get (D := (dC, dI)) (ci := 6) (v := .ref h_m_signOf) (C := "BasisWalkModel") (T := T_Mo) (N := 31) hx hb hts iw1 hown hK hP 0 rfl rfl 25 (by decide) fl0 (fun _ h9 => h9) rfl d_Mo_determinantOf_70 ?_
    refine lv_sipush (v := 4096) hx hb d_Mo_determinantOf_73 (by decide) ?_
    refine lv_iload_n hx hb d_Mo_determinantOf_76 rfl (lv_at hl 1 rfl) ?_
    refine lv_imul hx hb d_Mo_determinantOf_77 ?_
    refine lv_iload_n hx hb d_Mo_determinantOf_78 rfl (lv_at hl 2 rfl) ?_
    refine lv_iload_n hx hb d_Mo_determinantOf_79 rfl (lv_at hl 3 rfl) ?_
    refine lv_ior hx hb d_Mo_determinantOf_80 ?_
    refine lv_iadd hx hb d_Mo_determinantOf_81 ?_
    obtain ⟨g_3, h⟩ := ck_in_s h
    refine va_bald hx hb hK hP 1 2 rfl rfl g_3 d_Mo_determinantOf_82 ?_
    refine lv_topi (fun x_4 ex_4 => ?_)
    replace h := ck_nm_s h ex_4
    refine lv_istore (lv' := [(5, .int x_4), (0, .ref h_m), (1, .int k0), (2, .int front0), (3, .int behind0), (4, .int v4_1)]) hx hb d_Mo_determinantOf_83 hl (by decide) rfl (fun ls hl => ?_)
    refine lv_aload_n hx hb d_Mo_determinantOf_85 rfl (lv_at hl 1 rfl) ?_
    refine va_get (D := (dC, dI)) (ci := 6) (v := .ref h_m_sorted) (C := "BasisWalkModel") (T := T_Mo) (N := 31) hx hb hts iw1 hown hK hP 0 rfl rfl 30 (by decide) fl2 (fun _ h9 => h9) rfl d_Mo_determinantOf_86 ?_
    refine lv_iload hx hb d_Mo_determinantOf_89 (lv_at hl 5 rfl) ?_
    obtain ⟨r_5, hc_6, h⟩ := ck_b1_s h
    have hPc := hP.sub (ws' := [(h_m_sorted, .inl (cI, m_sorted_n, .inl w_2))]) [3] rfl
    have hDc := hD.sub (ws' := [(h_m_sorted, .inl (cI, m_sorted_n, .inl w_2))]) [3] (by decide) rfl
    have hFc := va_free (wc := [(h_m_sorted, .inl (cI, m_sorted_n, .inl w_2))]) hD hS hA [3] rfl
    refine va_calli (va_runS (As := [.ref h_m_sorted, .int v4_1]) (rest := []) ⟨hx, hb, hml, hown, hts⟩ (c_R_isEven l dC dI cI cJ cB cZ cT cN H.size h_m_sorted m_sorted_n w_2 v4_1 _ hc_6) (va_cwS 2 hts (tb_S tw_666 tw_667 tw_6 tw_668) rfl rfl rfl (by decide +kernel) ⟨Nat.le_of_ble_eq_true rfl, Nat.le_of_ble_eq_true rfl⟩) ⟨fun a U g mk q => by obtain ⟨q0, q1, qP, qK, qN, qD⟩ := q; exact ⟨q0, q1, qP, va_K.moved (u := U) (U := U.calling g mk a) (Vm.Alike.refl U.vm) qK, qN.same rfl, qD⟩, fun U hU hW => ⟨rfl, by rw [hU], by rw [hU]; exact hPc, va_K.moved hW.alike hK, hN.warm hW, hDc.weaken (fun _ _ _ _ => trivial)⟩⟩ rfl rfl hl.1 rfl (lv_room (Nat.le_of_ble_eq_true rfl)) d_Mo_determinantOf_91 ⟨Nat.zero_le _, Nat.zero_le _⟩) hS (fun q _ h => hFc q h) hFc (fun rr u t H1 locs ht hvm hw hB hz1 hk1 hS => ?_)
    replace hw := hw.symm
    subst hw
    obtain ⟨hP1, -, hD1⟩ := hB
    rw [ht] at hP1
    obtain ⟨hP, hD⟩ := va_join (wr := [(h_m, .inr (6, [.ref h_m_one, .ref h_m_two, .ref h_m_three, .ref h_m_four, .ref h_m_five, .ref h_m_six, .ref h_m_seven, .ref h_m_eight, .ref h_m_work, .ref h_m_small, .int m_rows, .int m_columns, .int m_prime, .ref h_m_pivots, .ref h_m_freeRows, .ref h_m_freeColumns, .ref h_m_minor, .ref h_m_smallMinor, .ref h_m_fields, .ref h_m_rowCounts, .ref h_m_elements, .ref h_m_numbers, .ref h_m_known, .ref h_m_ranks, .ref h_m_rankOf, .ref h_m_signOf, .ref h_m_order, .ref h_m_sizes, .ref h_m_coefficients, .ref h_m_choices, .ref h_m_sorted])), (h_m_signOf, .inl (cB, m_signOf_n, .inl m_signOf)), (h_m_elements, .inl (cI, m_elements_n, .inl m_elements))]) (w1 := [(h_m_sorted, .inl (cI, m_sorted_n, .inl w_2))]) hP hD [3] [0, 1, 2] rfl rfl (by decide) (by decide) hk1 hFc hP1 hD1
    generalize H1 = H at hP hS ⊢
    have hP : va_P (dC, dI) cl_all [(h_m, .inr (6, [.ref h_m_one, .ref h_m_two, .ref h_m_three, .ref h_m_four, .ref h_m_five, .ref h_m_six, .ref h_m_seven, .ref h_m_eight, .ref h_m_work, .ref h_m_small, .int m_rows, .int m_columns, .int m_prime, .ref h_m_pivots, .ref h_m_freeRows, .ref h_m_freeColumns, .ref h_m_minor, .ref h_m_smallMinor, .ref h_m_fields, .ref h_m_rowCounts, .ref h_m_elements, .ref h_m_numbers, .ref h_m_known, .ref h_m_ranks, .ref h_m_rankOf, .ref h_m_signOf, .ref h_m_order, .ref h_m_sizes, .ref h_m_coefficients, .ref h_m_choices, .ref h_m_sorted])), (h_m_signOf, .inl (cB, m_signOf_n, .inl m_signOf)), (h_m_elements, .inl (cI, m_elements_n, .inl m_elements)), (h_m_sorted, .inl (cI, m_sorted_n, .inl w_2))] H := hP.sub [0, 1, 2, 3] rfl
    have hD : va_D A [(h_m, .inr (6, [.ref h_m_one, .ref h_m_two, .ref h_m_three, .ref h_m_four, .ref h_m_five, .ref h_m_six, .ref h_m_seven, .ref h_m_eight, .ref h_m_work, .ref h_m_small, .int m_rows, .int m_columns, .int m_prime, .ref h_m_pivots, .ref h_m_freeRows, .ref h_m_freeColumns, .ref h_m_minor, .ref h_m_smallMinor, .ref h_m_fields, .ref h_m_rowCounts, .ref h_m_elements, .ref h_m_numbers, .ref h_m_known, .ref h_m_ranks, .ref h_m_rankOf, .ref h_m_signOf, .ref h_m_order, .ref h_m_sizes, .ref h_m_coefficients, .ref h_m_choices, .ref h_m_sorted])), (h_m_signOf, .inl (cB, m_signOf_n, .inl m_signOf)), (h_m_elements, .inl (cI, m_elements_n, .inl m_elements)), (h_m_sorted, .inl (cI, m_sorted_n, .inl w_2))] := hD.sub [0, 1, 2, 3] (by decide) rfl
    refine lv_if_eq (tgt := 102) hx hb d_Mo_determinantOf_94 (by decide) (fun c_7 => ?_) (fun c_7 => ?_)
    · replace h := ck_if_t h c_7
      refine lv_iload hx hb d_Mo_determinantOf_102 (lv_at hl 0 rfl) ?_
      refine lv_ineg hx hb d_Mo_determinantOf_104 ?_
      obtain rfl := Option.some.inj h
      subst hQ
      exact W.iret (v := (-x_4)) hx hb hr (fun t ht hW => ⟨⟨(-x_4), w_2, rfl, rfl, by rw [ht]; exact hP, va_K.moved hW.alike hK, hD⟩, hS.F ht⟩) hS.2.2 d_Mo_determinantOf_105
    · replace h := ck_if_f h c_7
      refine lv_iload hx hb d_Mo_determinantOf_97 (lv_at hl 0 rfl) ?_
      refine lv_goto (tgt := 105) hx hb d_Mo_determinantOf_99 (by decide) ?_
      obtain rfl := Option.some.inj h
      subst hQ
      exact W.iret (v := x_4) hx hb hr (fun t ht hW => ⟨⟨x_4, w_2, rfl, rfl, by rw [ht]; exact hP, va_K.moved hW.alike hK, hD⟩, hS.F ht⟩) hS.2.2 d_Mo_determinantOf_105
  · intro k_69 J_69 h
    refine lo3_W (r := r) (fun (v5_8 : Int32) (v4_9 : Int32) (w_10 : Nat → Int32) => ∀ (H : Heap) (locs : List Loc), va_P (dC, dI) cl_all [(h_m, .inr (6, [.ref h_m_one, .ref h_m_two, .ref h_m_three, .ref h_m_four, .ref h_m_five, .ref h_m_six, .ref h_m_seven, .ref h_m_eight, .ref h_m_work, .ref h_m_small, .int m_rows, .int m_columns, .int m_prime, .ref h_m_pivots, .ref h_m_freeRows, .ref h_m_freeColumns, .ref h_m_minor, .ref h_m_smallMinor, .ref h_m_fields, .ref h_m_rowCounts, .ref h_m_elements, .ref h_m_numbers, .ref h_m_known, .ref h_m_ranks, .ref h_m_rankOf, .ref h_m_signOf, .ref h_m_order, .ref h_m_sizes, .ref h_m_coefficients, .ref h_m_choices, .ref h_m_sorted])), (h_m_signOf, .inl (cB, m_signOf_n, .inl m_signOf)), (h_m_elements, .inl (cI, m_elements_n, .inl m_elements)), (h_m_sorted, .inl (cI, m_sorted_n, .inl w_10))] H → va_D A [(h_m, .inr (6, [.ref h_m_one, .ref h_m_two, .ref h_m_three, .ref h_m_four, .ref h_m_five, .ref h_m_six, .ref h_m_seven, .ref h_m_eight, .ref h_m_work, .ref h_m_small, .int m_rows, .int m_columns, .int m_prime, .ref h_m_pivots, .ref h_m_freeRows, .ref h_m_freeColumns, .ref h_m_minor, .ref h_m_smallMinor, .ref h_m_fields, .ref h_m_rowCounts, .ref h_m_elements, .ref h_m_numbers, .ref h_m_known, .ref h_m_ranks, .ref h_m_rankOf, .ref h_m_signOf, .ref h_m_order, .ref h_m_sizes, .ref h_m_coefficients, .ref h_m_choices, .ref h_m_sorted])), (h_m_signOf, .inl (cB, m_signOf_n, .inl m_signOf)), (h_m_elements, .inl (cI, m_elements_n, .inl m_elements)), (h_m_sorted, .inl (cI, m_sorted_n, .inl w_10))] → va_S A s.heap H locs → ∀ ls : Array Slot, lv_has ls 7 [(0, .ref h_m), (1, .int k0), (2, .int front0), (3, .int behind0), (4, .int v4_9), (5, .int v5_8)] → W p l e ({ frames := 1, cells := 0, slots := 0, locals := 24 } : Room) s m AR below meth c H locs 0 0 QQ (F0 m 6 ls [])) ?_ _ _ _ _ h _ _ hP hD hS _ (lv_sub hl [2, 3, 4, 5, 1, 0] rfl)
    intro k_6 v5_8 v4_9 w_10 J_6 h H locs hP hD hS ls hl
    refine lv_iload hx hb d_Mo_determinantOf_6 (lv_at hl 5 rfl) ?_
    refine lv_iconst (v := 2) hx hb d_Mo_determinantOf_8 (by decide) ?_
    refine lv_icmp_ge (tgt := 69) hx hb d_Mo_determinantOf_9 (by decide) (fun c_11 => ?_) (fun c_11 => ?_)
    · replace h := ck_if_t h c_11
      exact J_69 _ _ h _ _ hP hD hS _ (lv_sub hl [0, 1, 2, 3, 4] rfl)
    · replace h := ck_if_f h c_11
      refine lv_iconst (v := 0) hx hb d_Mo_determinantOf_12 (by decide) ?_
      refine lv_istore (lv' := [(6, .int 0), (0, .ref h_m), (1, .int k0), (2, .int front0), (3, .int behind0), (4, .int v4_9), (5, .int v5_8)]) hx hb d_Mo_determinantOf_13 hl (by decide) rfl (fun ls hl => ?_)
      refine ck_jn_W h (fun k' => ∀ (v4_12 : Int32) (w_13 : Nat → Int32), k' v4_12 w_13 = some r → ∀ (H : Heap) (locs : List Loc), va_P (dC, dI) cl_all [(h_m, .inr (6, [.ref h_m_one, .ref h_m_two, .ref h_m_three, .ref h_m_four, .ref h_m_five, .ref h_m_six, .ref h_m_seven, .ref h_m_eight, .ref h_m_work, .ref h_m_small, .int m_rows, .int m_columns, .int m_prime, .ref h_m_pivots, .ref h_m_freeRows, .ref h_m_freeColumns, .ref h_m_minor, .ref h_m_smallMinor, .ref h_m_fields, .ref h_m_rowCounts, .ref h_m_elements, .ref h_m_numbers, .ref h_m_known, .ref h_m_ranks, .ref h_m_rankOf, .ref h_m_signOf, .ref h_m_order, .ref h_m_sizes, .ref h_m_coefficients, .ref h_m_choices, .ref h_m_sorted])), (h_m_signOf, .inl (cB, m_signOf_n, .inl m_signOf)), (h_m_elements, .inl (cI, m_elements_n, .inl m_elements)), (h_m_sorted, .inl (cI, m_sorted_n, .inl w_13))] H → va_D A [(h_m, .inr (6, [.ref h_m_one, .ref h_m_two, .ref h_m_three, .ref h_m_four, .ref h_m_five, .ref h_m_six, .ref h_m_seven, .ref h_m_eight, .ref h_m_work, .ref h_m_small, .int m_rows, .int m_columns, .int m_prime, .ref h_m_pivots, .ref h_m_freeRows, .ref h_m_freeColumns, .ref h_m_minor, .ref h_m_smallMinor, .ref h_m_fields, .ref h_m_rowCounts, .ref h_m_elements, .ref h_m_numbers, .ref h_m_known, .ref h_m_ranks, .ref h_m_rankOf, .ref h_m_signOf, .ref h_m_order, .ref h_m_sizes, .ref h_m_coefficients, .ref h_m_choices, .ref h_m_sorted])), (h_m_signOf, .inl (cB, m_signOf_n, .inl m_signOf)), (h_m_elements, .inl (cI, m_elements_n, .inl m_elements)), (h_m_sorted, .inl (cI, m_sorted_n, .inl w_13))] → va_S A s.heap H locs → ∀ ls : Array Slot, lv_has ls 7 [(0, .ref h_m), (1, .int k0), (2, .int front0), (3, .int behind0), (4, .int v4_12), (5, .int v5_8)] → W p l e ({ frames := 1, cells := 0, slots := 0, locals := 24 } : Room) s m AR below meth c H locs 0 0 QQ (F0 m 63 ls [])) ?_ ?_
      · intro v4_12 w_13 h H locs hP hD hS ls hl
        obtain ⟨x_14, ex_14⟩ : ∃ y : Int32, y = v5_8 + 1 := ⟨_, rfl⟩
        replace h := ck_nm_s h ex_14
        refine lv_iinc (v := x_14) (lv' := [(5, .int x_14), (0, .ref h_m), (1, .int k0), (2, .int front0), (3, .int behind0), (4, .int v4_12)]) hx hb d_Mo_determinantOf_63 hl (k := 5) rfl (by rw [ex_14]; rfl) (by decide) rfl (fun ls hl => ?_)
        refine lv_goto (tgt := 6) hx hb d_Mo_determinantOf_66 (by decide) ?_
        exact J_6 _ _ _ h _ _ hP hD hS _ (lv_sub hl [1, 2, 3, 4, 5, 0] rfl)
      · intro k_63 J_63 h
        refine lo3_W (r := r) (fun (v6_15 : Int32) (v4_16 : Int32) (w_17 : Nat → Int32) => ∀ (H : Heap) (locs : List Loc), va_P (dC, dI) cl_all [(h_m, .inr (6, [.ref h_m_one, .ref h_m_two, .ref h_m_three, .ref h_m_four, .ref h_m_five, .ref h_m_six, .ref h_m_seven, .ref h_m_eight, .ref h_m_work, .ref h_m_small, .int m_rows, .int m_columns, .int m_prime, .ref h_m_pivots, .ref h_m_freeRows, .ref h_m_freeColumns, .ref h_m_minor, .ref h_m_smallMinor, .ref h_m_fields, .ref h_m_rowCounts, .ref h_m_elements, .ref h_m_numbers, .ref h_m_known, .ref h_m_ranks, .ref h_m_rankOf, .ref h_m_signOf, .ref h_m_order, .ref h_m_sizes, .ref h_m_coefficients, .ref h_m_choices, .ref h_m_sorted])), (h_m_signOf, .inl (cB, m_signOf_n, .inl m_signOf)), (h_m_elements, .inl (cI, m_elements_n, .inl m_elements)), (h_m_sorted, .inl (cI, m_sorted_n, .inl w_17))] H → va_D A [(h_m, .inr (6, [.ref h_m_one, .ref h_m_two, .ref h_m_three, .ref h_m_four, .ref h_m_five, .ref h_m_six, .ref h_m_seven, .ref h_m_eight, .ref h_m_work, .ref h_m_small, .int m_rows, .int m_columns, .int m_prime, .ref h_m_pivots, .ref h_m_freeRows, .ref h_m_freeColumns, .ref h_m_minor, .ref h_m_smallMinor, .ref h_m_fields, .ref h_m_rowCounts, .ref h_m_elements, .ref h_m_numbers, .ref h_m_known, .ref h_m_ranks, .ref h_m_rankOf, .ref h_m_signOf, .ref h_m_order, .ref h_m_sizes, .ref h_m_coefficients, .ref h_m_choices, .ref h_m_sorted])), (h_m_signOf, .inl (cB, m_signOf_n, .inl m_signOf)), (h_m_elements, .inl (cI, m_elements_n, .inl m_elements)), (h_m_sorted, .inl (cI, m_sorted_n, .inl w_17))] → va_S A s.heap H locs → ∀ ls : Array Slot, lv_has ls 7 [(0, .ref h_m), (1, .int k0), (2, .int front0), (3, .int behind0), (4, .int v4_16), (5, .int v5_8), (6, .int v6_15)] → W p l e ({ frames := 1, cells := 0, slots := 0, locals := 24 } : Room) s m AR below meth c H locs 0 0 QQ (F0 m 15 ls [])) ?_ _ _ _ _ h _ _ hP hD hS _ (lv_sub hl [1, 2, 3, 4, 5, 6, 0] rfl)
        intro k_15 v6_15 v4_16 w_17 J_15 h H locs hP hD hS ls hl
        refine lv_iload hx hb d_Mo_determinantOf_15 (lv_at hl 6 rfl) ?_
        refine lv_aload_n hx hb d_Mo_determinantOf_17 rfl (lv_at hl 0 rfl) ?_
        refine va_get (D := (dC, dI)) (ci := 6) (v := .ref h_m_elements) (C := "BasisWalkModel") (T := T_Mo) (N := 31) hx hb hts iw1 hown hK hP 0 rfl rfl 20 (by decide) fl3 (fun _ h9 => h9) rfl d_Mo_determinantOf_18 ?_
        refine lv_iload_n hx hb d_Mo_determinantOf_21 rfl (lv_at hl 1 rfl) ?_
        obtain ⟨g_18, h⟩ := ck_in_s h
        refine va_iald hx hb hK hP 2 0 rfl rfl g_18 d_Mo_determinantOf_22 ?_
        refine lv_icmp_ge (tgt := 63) hx hb d_Mo_determinantOf_23 (by decide) (fun c_19 => ?_) (fun c_19 => ?_)
        · replace h := ck_if_t h c_19
          exact J_63 _ _ h _ _ hP hD hS _ (lv_sub hl [0, 1, 2, 3, 4, 5] rfl)
        · replace h := ck_if_f h c_19
          refine lv_iload hx hb d_Mo_determinantOf_26 (lv_at hl 5 rfl) ?_
          refine ck_jn_W h (fun k' => ∀ (s0_20 : Int32), k' s0_20 = some r → ∀ (H : Heap) (locs : List Loc), va_P (dC, dI) cl_all [(h_m, .inr (6, [.ref h_m_one, .ref h_m_two, .ref h_m_three, .ref h_m_four, .ref h_m_five, .ref h_m_six, .ref h_m_seven, .ref h_m_eight, .ref h_m_work, .ref h_m_small, .int m_rows, .int m_columns, .int m_prime, .ref h_m_pivots, .ref h_m_freeRows, .ref h_m_freeColumns, .ref h_m_minor, .ref h_m_smallMinor, .ref h_m_fields, .ref h_m_rowCounts, .ref h_m_elements, .ref h_m_numbers, .ref h_m_known, .ref h_m_ranks, .ref h_m_rankOf, .ref h_m_signOf, .ref h_m_order, .ref h_m_sizes, .ref h_m_coefficients, .ref h_m_choices, .ref h_m_sorted])), (h_m_signOf, .inl (cB, m_signOf_n, .inl m_signOf)), (h_m_elements, .inl (cI, m_elements_n, .inl m_elements)), (h_m_sorted, .inl (cI, m_sorted_n, .inl w_17))] H → va_D A [(h_m, .inr (6, [.ref h_m_one, .ref h_m_two, .ref h_m_three, .ref h_m_four, .ref h_m_five, .ref h_m_six, .ref h_m_seven, .ref h_m_eight, .ref h_m_work, .ref h_m_small, .int m_rows, .int m_columns, .int m_prime, .ref h_m_pivots, .ref h_m_freeRows, .ref h_m_freeColumns, .ref h_m_minor, .ref h_m_smallMinor, .ref h_m_fields, .ref h_m_rowCounts, .ref h_m_elements, .ref h_m_numbers, .ref h_m_known, .ref h_m_ranks, .ref h_m_rankOf, .ref h_m_signOf, .ref h_m_order, .ref h_m_sizes, .ref h_m_coefficients, .ref h_m_choices, .ref h_m_sorted])), (h_m_signOf, .inl (cB, m_signOf_n, .inl m_signOf)), (h_m_elements, .inl (cI, m_elements_n, .inl m_elements)), (h_m_sorted, .inl (cI, m_sorted_n, .inl w_17))] → va_S A s.heap H locs → ∀ ls : Array Slot, lv_has ls 7 [(0, .ref h_m), (1, .int k0), (2, .int front0), (3, .int behind0), (4, .int v4_16), (5, .int v5_8), (6, .int v6_15)] → W p l e ({ frames := 1, cells := 0, slots := 0, locals := 24 } : Room) s m AR below meth c H locs 0 0 QQ (F0 m 36 ls [.int s0_20])) ?_ ?_
          · intro s0_20 h H locs hP hD hS ls hl
            refine lv_iload hx hb d_Mo_determinantOf_36 (lv_at hl 6 rfl) ?_
            refine lv_ishr hx hb d_Mo_determinantOf_38 ?_
            refine lv_iconst (v := 1) hx hb d_Mo_determinantOf_39 (by decide) ?_
            refine lv_iand hx hb d_Mo_determinantOf_40 ?_
            refine lv_iconst (v := 1) hx hb d_Mo_determinantOf_41 (by decide) ?_
            refine ck_jn_W h (fun k' => ∀ (v4_21 : Int32) (w_22 : Nat → Int32), k' v4_21 w_22 = some r → ∀ (H : Heap) (locs : List Loc), va_P (dC, dI) cl_all [(h_m, .inr (6, [.ref h_m_one, .ref h_m_two, .ref h_m_three, .ref h_m_four, .ref h_m_five, .ref h_m_six, .ref h_m_seven, .ref h_m_eight, .ref h_m_work, .ref h_m_small, .int m_rows, .int m_columns, .int m_prime, .ref h_m_pivots, .ref h_m_freeRows, .ref h_m_freeColumns, .ref h_m_minor, .ref h_m_smallMinor, .ref h_m_fields, .ref h_m_rowCounts, .ref h_m_elements, .ref h_m_numbers, .ref h_m_known, .ref h_m_ranks, .ref h_m_rankOf, .ref h_m_signOf, .ref h_m_order, .ref h_m_sizes, .ref h_m_coefficients, .ref h_m_choices, .ref h_m_sorted])), (h_m_signOf, .inl (cB, m_signOf_n, .inl m_signOf)), (h_m_elements, .inl (cI, m_elements_n, .inl m_elements)), (h_m_sorted, .inl (cI, m_sorted_n, .inl w_22))] H → va_D A [(h_m, .inr (6, [.ref h_m_one, .ref h_m_two, .ref h_m_three, .ref h_m_four, .ref h_m_five, .ref h_m_six, .ref h_m_seven, .ref h_m_eight, .ref h_m_work, .ref h_m_small, .int m_rows, .int m_columns, .int m_prime, .ref h_m_pivots, .ref h_m_freeRows, .ref h_m_freeColumns, .ref h_m_minor, .ref h_m_smallMinor, .ref h_m_fields, .ref h_m_rowCounts, .ref h_m_elements, .ref h_m_numbers, .ref h_m_known, .ref h_m_ranks, .ref h_m_rankOf, .ref h_m_signOf, .ref h_m_order, .ref h_m_sizes, .ref h_m_coefficients, .ref h_m_choices, .ref h_m_sorted])), (h_m_signOf, .inl (cB, m_signOf_n, .inl m_signOf)), (h_m_elements, .inl (cI, m_elements_n, .inl m_elements)), (h_m_sorted, .inl (cI, m_sorted_n, .inl w_22))] → va_S A s.heap H locs → ∀ ls : Array Slot, lv_has ls 7 [(0, .ref h_m), (1, .int k0), (2, .int front0), (3, .int behind0), (4, .int v4_21), (5, .int v5_8), (6, .int v6_15)] → W p l e ({ frames := 1, cells := 0, slots := 0, locals := 24 } : Room) s m AR below meth c H locs 0 0 QQ (F0 m 57 ls [])) ?_ ?_
            · intro v4_21 w_22 h H locs hP hD hS ls hl
              obtain ⟨x_23, ex_23⟩ : ∃ y : Int32, y = v6_15 + 1 := ⟨_, rfl⟩
              replace h := ck_nm_s h ex_23
              refine lv_iinc (v := x_23) (lv' := [(6, .int x_23), (0, .ref h_m), (1, .int k0), (2, .int front0), (3, .int behind0), (4, .int v4_21), (5, .int v5_8)]) hx hb d_Mo_determinantOf_57 hl (k := 6) rfl (by rw [ex_23]; rfl) (by decide) rfl (fun ls hl => ?_)
              refine lv_goto (tgt := 15) hx hb d_Mo_determinantOf_60 (by decide) ?_
              exact J_15 _ _ _ h _ _ hP hD hS _ (lv_sub hl [1, 2, 3, 4, 5, 6, 0] rfl)
            · intro k_57 J_57 h
              refine lv_icmp_ne (tgt := 57) hx hb d_Mo_determinantOf_42 (by decide) (fun c_24 => ?_) (fun c_24 => ?_)
              · replace h := ck_if_f h c_24
                exact J_57 _ _ h _ _ hP hD hS _ (lv_sub hl [0, 1, 2, 3, 4, 5, 6] rfl)
              · replace h := ck_if_t h c_24
                refine lv_aload_n hx hb d_Mo_determinantOf_45 rfl (lv_at hl 0 rfl) ?_
                refine va_get (D := (dC, dI)) (ci := 6) (v := .ref h_m_sorted) (C := "BasisWalkModel") (T := T_Mo) (N := 31) hx hb hts iw1 hown hK hP 0 rfl rfl 30 (by decide) fl2 (fun _ h9 => h9) rfl d_Mo_determinantOf_46 ?_
                refine lv_iload hx hb d_Mo_determinantOf_49 (lv_at hl 4 rfl) ?_
                refine lv_iload hx hb d_Mo_determinantOf_51 (lv_at hl 6 rfl) ?_
                obtain ⟨g_25, h⟩ := ck_in_s h
                refine va_iast hx hb hK hP hD hS 3 0 rfl rfl g_25 d_Mo_determinantOf_53 (fun H locs hP hD hS => ?_)
                have hP : va_P (dC, dI) cl_all [(h_m, .inr (6, [.ref h_m_one, .ref h_m_two, .ref h_m_three, .ref h_m_four, .ref h_m_five, .ref h_m_six, .ref h_m_seven, .ref h_m_eight, .ref h_m_work, .ref h_m_small, .int m_rows, .int m_columns, .int m_prime, .ref h_m_pivots, .ref h_m_freeRows, .ref h_m_freeColumns, .ref h_m_minor, .ref h_m_smallMinor, .ref h_m_fields, .ref h_m_rowCounts, .ref h_m_elements, .ref h_m_numbers, .ref h_m_known, .ref h_m_ranks, .ref h_m_rankOf, .ref h_m_signOf, .ref h_m_order, .ref h_m_sizes, .ref h_m_coefficients, .ref h_m_choices, .ref h_m_sorted])), (h_m_signOf, .inl (cB, m_signOf_n, .inl m_signOf)), (h_m_elements, .inl (cI, m_elements_n, .inl m_elements)), (h_m_sorted, .inl (cI, m_sorted_n, .inl (upd w_17 v4_16.toNatClampNeg v6_15)))] H := hP
                have hD : va_D A [(h_m, .inr (6, [.ref h_m_one, .ref h_m_two, .ref h_m_three, .ref h_m_four, .ref h_m_five, .ref h_m_six, .ref h_m_seven, .ref h_m_eight, .ref h_m_work, .ref h_m_small, .int m_rows, .int m_columns, .int m_prime, .ref h_m_pivots, .ref h_m_freeRows, .ref h_m_freeColumns, .ref h_m_minor, .ref h_m_smallMinor, .ref h_m_fields, .ref h_m_rowCounts, .ref h_m_elements, .ref h_m_numbers, .ref h_m_known, .ref h_m_ranks, .ref h_m_rankOf, .ref h_m_signOf, .ref h_m_order, .ref h_m_sizes, .ref h_m_coefficients, .ref h_m_choices, .ref h_m_sorted])), (h_m_signOf, .inl (cB, m_signOf_n, .inl m_signOf)), (h_m_elements, .inl (cI, m_elements_n, .inl m_elements)), (h_m_sorted, .inl (cI, m_sorted_n, .inl (upd w_17 v4_16.toNatClampNeg v6_15)))] := hD
                obtain ⟨x_26, ex_26⟩ : ∃ y : Int32, y = v4_16 + 1 := ⟨_, rfl⟩
                replace h := ck_nm_s h ex_26
                refine lv_iinc (v := x_26) (lv' := [(4, .int x_26), (0, .ref h_m), (1, .int k0), (2, .int front0), (3, .int behind0), (5, .int v5_8), (6, .int v6_15)]) hx hb d_Mo_determinantOf_54 hl (k := 4) rfl (by rw [ex_26]; rfl) (by decide) rfl (fun ls hl => ?_)
                exact J_57 _ _ h _ _ hP hD hS _ (lv_sub hl [1, 2, 3, 4, 0, 5, 6] rfl)
          · intro k_36 J_36 h
            refine lv_if_ne (tgt := 35) hx hb d_Mo_determinantOf_28 (by decide) (fun c_27 => ?_) (fun c_27 => ?_)
            · replace h := ck_if_f h c_27
              refine lv_iload_n hx hb d_Mo_determinantOf_35 rfl (lv_at hl 3 rfl) ?_
              exact J_36 _ h _ _ hP hD hS _ (lv_sub hl [0, 1, 2, 3, 4, 5, 6] rfl)
            · replace h := ck_if_t h c_27
              refine lv_iload_n hx hb d_Mo_determinantOf_31 rfl (lv_at hl 2 rfl) ?_
              refine lv_goto (tgt := 36) hx hb d_Mo_determinantOf_32 (by decide) ?_
              exact J_36 _ h _ _ hP hD hS _ (lv_sub hl [0, 1, 2, 3, 4, 5, 6] rfl)
theorem d_Mo_belowOf_0 : decode prog_7_method_37_code 0 = .ok (.iconst 0, 1) := by decide +kernel
theorem d_Mo_belowOf_1 : decode prog_7_method_37_code 1 = .ok (.istore_n 3, 1) := by decide +kernel
theorem d_Mo_belowOf_2 : decode prog_7_method_37_code 2 = .ok (.iload_n 2, 1) := by decide +kernel
theorem d_Mo_belowOf_3 : decode prog_7_method_37_code 3 = .ok (.iload_n 3, 1) := by decide +kernel
theorem d_Mo_belowOf_4 : decode prog_7_method_37_code 4 = .ok (.ishr, 1) := by decide +kernel
theorem d_Mo_belowOf_5 : decode prog_7_method_37_code 5 = .ok (.iconst 1, 1) := by decide +kernel
theorem d_Mo_belowOf_6 : decode prog_7_method_37_code 6 = .ok (.iand, 1) := by decide +kernel
theorem d_Mo_belowOf_7 : decode prog_7_method_37_code 7 = .ok (.ifCond .ne 9, 3) := by decide +kernel
theorem d_Mo_belowOf_10 : decode prog_7_method_37_code 10 = .ok (.iinc 3 1, 3) := by decide +kernel
theorem d_Mo_belowOf_13 : decode prog_7_method_37_code 13 = .ok (.goto (-11), 3) := by decide +kernel
theorem d_Mo_belowOf_16 : decode prog_7_method_37_code 16 = .ok (.iconst 0, 1) := by decide +kernel
theorem d_Mo_belowOf_17 : decode prog_7_method_37_code 17 = .ok (.istore 4, 2) := by decide +kernel
theorem d_Mo_belowOf_19 : decode prog_7_method_37_code 19 = .ok (.iload_n 2, 1) := by decide +kernel
theorem d_Mo_belowOf_20 : decode prog_7_method_37_code 20 = .ok (.iconst 1, 1) := by decide +kernel
theorem d_Mo_belowOf_21 : decode prog_7_method_37_code 21 = .ok (.iload_n 3, 1) := by decide +kernel
theorem d_Mo_belowOf_22 : decode prog_7_method_37_code 22 = .ok (.ishl, 1) := by decide +kernel
theorem d_Mo_belowOf_23 : decode prog_7_method_37_code 23 = .ok (.ixor, 1) := by decide +kernel
theorem d_Mo_belowOf_24 : decode prog_7_method_37_code 24 = .ok (.istore 5, 2) := by decide +kernel
theorem d_Mo_belowOf_26 : decode prog_7_method_37_code 26 = .ok (.iconst 0, 1) := by decide +kernel
theorem d_Mo_belowOf_27 : decode prog_7_method_37_code 27 = .ok (.istore 6, 2) := by decide +kernel
theorem d_Mo_belowOf_29 : decode prog_7_method_37_code 29 = .ok (.iload 6, 2) := by decide +kernel
theorem d_Mo_belowOf_31 : decode prog_7_method_37_code 31 = .ok (.aload_n 0, 1) := by decide +kernel
theorem d_Mo_belowOf_32 : decode prog_7_method_37_code 32 = .ok (.getfield 159, 3) := by decide +kernel
theorem d_Mo_belowOf_35 : decode prog_7_method_37_code 35 = .ok (.iload_n 1, 1) := by decide +kernel
theorem d_Mo_belowOf_36 : decode prog_7_method_37_code 36 = .ok (.iaload, 1) := by decide +kernel
theorem d_Mo_belowOf_37 : decode prog_7_method_37_code 37 = .ok (.if_icmp .ge 61, 3) := by decide +kernel
theorem d_Mo_belowOf_40 : decode prog_7_method_37_code 40 = .ok (.iload 5, 2) := by decide +kernel
theorem d_Mo_belowOf_42 : decode prog_7_method_37_code 42 = .ok (.iload 4, 2) := by decide +kernel
theorem d_Mo_belowOf_44 : decode prog_7_method_37_code 44 = .ok (.ior, 1) := by decide +kernel
theorem d_Mo_belowOf_45 : decode prog_7_method_37_code 45 = .ok (.istore 7, 2) := by decide +kernel
theorem d_Mo_belowOf_47 : decode prog_7_method_37_code 47 = .ok (.iload_n 2, 1) := by decide +kernel
theorem d_Mo_belowOf_48 : decode prog_7_method_37_code 48 = .ok (.iload 6, 2) := by decide +kernel
theorem d_Mo_belowOf_50 : decode prog_7_method_37_code 50 = .ok (.ishr, 1) := by decide +kernel
theorem d_Mo_belowOf_51 : decode prog_7_method_37_code 51 = .ok (.iconst 1, 1) := by decide +kernel
theorem d_Mo_belowOf_52 : decode prog_7_method_37_code 52 = .ok (.iand, 1) := by decide +kernel
theorem d_Mo_belowOf_53 : decode prog_7_method_37_code 53 = .ok (.ifCond .ne 35, 3) := by decide +kernel
theorem d_Mo_belowOf_56 : decode prog_7_method_37_code 56 = .ok (.aload_n 0, 1) := by decide +kernel
theorem d_Mo_belowOf_57 : decode prog_7_method_37_code 57 = .ok (.iload_n 1, 1) := by decide +kernel
theorem d_Mo_belowOf_58 : decode prog_7_method_37_code 58 = .ok (.iload 7, 2) := by decide +kernel
theorem d_Mo_belowOf_60 : decode prog_7_method_37_code 60 = .ok (.iconst 1, 1) := by decide +kernel
theorem d_Mo_belowOf_61 : decode prog_7_method_37_code 61 = .ok (.iload 6, 2) := by decide +kernel
theorem d_Mo_belowOf_63 : decode prog_7_method_37_code 63 = .ok (.ishl, 1) := by decide +kernel
theorem d_Mo_belowOf_64 : decode prog_7_method_37_code 64 = .ok (.ior, 1) := by decide +kernel
theorem d_Mo_belowOf_65 : decode prog_7_method_37_code 65 = .ok (.invokevirtual 222, 3) := by decide +kernel
theorem d_Mo_belowOf_68 : decode prog_7_method_37_code 68 = .ok (.aload_n 0, 1) := by decide +kernel
theorem d_Mo_belowOf_69 : decode prog_7_method_37_code 69 = .ok (.iload_n 1, 1) := by decide +kernel
theorem d_Mo_belowOf_70 : decode prog_7_method_37_code 70 = .ok (.iload 7, 2) := by decide +kernel
theorem d_Mo_belowOf_72 : decode prog_7_method_37_code 72 = .ok (.invokevirtual 222, 3) := by decide +kernel
theorem d_Mo_belowOf_75 : decode prog_7_method_37_code 75 = .ok (.if_icmp .le 13, 3) := by decide +kernel
theorem d_Mo_belowOf_78 : decode prog_7_method_37_code 78 = .ok (.iload 4, 2) := by decide +kernel
theorem d_Mo_belowOf_80 : decode prog_7_method_37_code 80 = .ok (.iconst 1, 1) := by decide +kernel
theorem d_Mo_belowOf_81 : decode prog_7_method_37_code 81 = .ok (.iload 6, 2) := by decide +kernel
theorem d_Mo_belowOf_83 : decode prog_7_method_37_code 83 = .ok (.ishl, 1) := by decide +kernel
theorem d_Mo_belowOf_84 : decode prog_7_method_37_code 84 = .ok (.ior, 1) := by decide +kernel
theorem d_Mo_belowOf_85 : decode prog_7_method_37_code 85 = .ok (.goto 5, 3) := by decide +kernel
theorem d_Mo_belowOf_88 : decode prog_7_method_37_code 88 = .ok (.iload 4, 2) := by decide +kernel
theorem d_Mo_belowOf_90 : decode prog_7_method_37_code 90 = .ok (.istore 4, 2) := by decide +kernel
theorem d_Mo_belowOf_92 : decode prog_7_method_37_code 92 = .ok (.iinc 6 1, 3) := by decide +kernel
theorem d_Mo_belowOf_95 : decode prog_7_method_37_code 95 = .ok (.goto (-66), 3) := by decide +kernel
theorem d_Mo_belowOf_98 : decode prog_7_method_37_code 98 = .ok (.iconst 0, 1) := by decide +kernel
theorem d_Mo_belowOf_99 : decode prog_7_method_37_code 99 = .ok (.istore 6, 2) := by decide +kernel
theorem d_Mo_belowOf_101 : decode prog_7_method_37_code 101 = .ok (.iconst 0, 1) := by decide +kernel
theorem d_Mo_belowOf_102 : decode prog_7_method_37_code 102 = .ok (.istore 7, 2) := by decide +kernel
theorem d_Mo_belowOf_104 : decode prog_7_method_37_code 104 = .ok (.iconst 0, 1) := by decide +kernel
theorem d_Mo_belowOf_105 : decode prog_7_method_37_code 105 = .ok (.istore 8, 2) := by decide +kernel
theorem d_Mo_belowOf_107 : decode prog_7_method_37_code 107 = .ok (.iconst 0, 1) := by decide +kernel
theorem d_Mo_belowOf_108 : decode prog_7_method_37_code 108 = .ok (.istore 9, 2) := by decide +kernel
theorem d_Mo_belowOf_110 : decode prog_7_method_37_code 110 = .ok (.iload 9, 2) := by decide +kernel
theorem d_Mo_belowOf_112 : decode prog_7_method_37_code 112 = .ok (.aload_n 0, 1) := by decide +kernel
theorem d_Mo_belowOf_113 : decode prog_7_method_37_code 113 = .ok (.getfield 159, 3) := by decide +kernel
theorem d_Mo_belowOf_116 : decode prog_7_method_37_code 116 = .ok (.iload_n 1, 1) := by decide +kernel
theorem d_Mo_belowOf_117 : decode prog_7_method_37_code 117 = .ok (.iaload, 1) := by decide +kernel
theorem d_Mo_belowOf_118 : decode prog_7_method_37_code 118 = .ok (.if_icmp .ge 91, 3) := by decide +kernel
theorem d_Mo_belowOf_121 : decode prog_7_method_37_code 121 = .ok (.iload_n 2, 1) := by decide +kernel
theorem d_Mo_belowOf_122 : decode prog_7_method_37_code 122 = .ok (.iload 9, 2) := by decide +kernel
theorem d_Mo_belowOf_124 : decode prog_7_method_37_code 124 = .ok (.ishr, 1) := by decide +kernel
theorem d_Mo_belowOf_125 : decode prog_7_method_37_code 125 = .ok (.iconst 1, 1) := by decide +kernel
theorem d_Mo_belowOf_126 : decode prog_7_method_37_code 126 = .ok (.iand, 1) := by decide +kernel
theorem d_Mo_belowOf_127 : decode prog_7_method_37_code 127 = .ok (.ifCond .ne 6, 3) := by decide +kernel
theorem d_Mo_belowOf_130 : decode prog_7_method_37_code 130 = .ok (.goto 73, 3) := by decide +kernel
theorem d_Mo_belowOf_133 : decode prog_7_method_37_code 133 = .ok (.aload_n 0, 1) := by decide +kernel
theorem d_Mo_belowOf_134 : decode prog_7_method_37_code 134 = .ok (.iload_n 1, 1) := by decide +kernel
theorem d_Mo_belowOf_135 : decode prog_7_method_37_code 135 = .ok (.iload_n 2, 1) := by decide +kernel
theorem d_Mo_belowOf_136 : decode prog_7_method_37_code 136 = .ok (.iconst 1, 1) := by decide +kernel
theorem d_Mo_belowOf_137 : decode prog_7_method_37_code 137 = .ok (.iload 9, 2) := by decide +kernel
theorem d_Mo_belowOf_139 : decode prog_7_method_37_code 139 = .ok (.ishl, 1) := by decide +kernel
theorem d_Mo_belowOf_140 : decode prog_7_method_37_code 140 = .ok (.ixor, 1) := by decide +kernel
theorem d_Mo_belowOf_141 : decode prog_7_method_37_code 141 = .ok (.iload 4, 2) := by decide +kernel
theorem d_Mo_belowOf_143 : decode prog_7_method_37_code 143 = .ok (.invokevirtual 246, 3) := by decide +kernel
theorem d_Mo_belowOf_146 : decode prog_7_method_37_code 146 = .ok (.istore 10, 2) := by decide +kernel
theorem d_Mo_belowOf_148 : decode prog_7_method_37_code 148 = .ok (.iload 8, 2) := by decide +kernel
theorem d_Mo_belowOf_150 : decode prog_7_method_37_code 150 = .ok (.iconst 2, 1) := by decide +kernel
theorem d_Mo_belowOf_151 : decode prog_7_method_37_code 151 = .ok (.irem, 1) := by decide +kernel
theorem d_Mo_belowOf_152 : decode prog_7_method_37_code 152 = .ok (.ifCond .ne 8, 3) := by decide +kernel
theorem d_Mo_belowOf_155 : decode prog_7_method_37_code 155 = .ok (.iload 10, 2) := by decide +kernel
theorem d_Mo_belowOf_157 : decode prog_7_method_37_code 157 = .ok (.goto 6, 3) := by decide +kernel
theorem d_Mo_belowOf_160 : decode prog_7_method_37_code 160 = .ok (.iload 10, 2) := by decide +kernel
theorem d_Mo_belowOf_162 : decode prog_7_method_37_code 162 = .ok (.ineg, 1) := by decide +kernel
theorem d_Mo_belowOf_163 : decode prog_7_method_37_code 163 = .ok (.istore 10, 2) := by decide +kernel
theorem d_Mo_belowOf_165 : decode prog_7_method_37_code 165 = .ok (.iload 8, 2) := by decide +kernel
theorem d_Mo_belowOf_167 : decode prog_7_method_37_code 167 = .ok (.ifCond .ne 8, 3) := by decide +kernel
theorem d_Mo_belowOf_170 : decode prog_7_method_37_code 170 = .ok (.iload 10, 2) := by decide +kernel
theorem d_Mo_belowOf_172 : decode prog_7_method_37_code 172 = .ok (.goto 5, 3) := by decide +kernel
theorem d_Mo_belowOf_175 : decode prog_7_method_37_code 175 = .ok (.iload 7, 2) := by decide +kernel
theorem d_Mo_belowOf_177 : decode prog_7_method_37_code 177 = .ok (.istore 7, 2) := by decide +kernel
theorem d_Mo_belowOf_179 : decode prog_7_method_37_code 179 = .ok (.iload 10, 2) := by decide +kernel
theorem d_Mo_belowOf_181 : decode prog_7_method_37_code 181 = .ok (.iload 7, 2) := by decide +kernel
theorem d_Mo_belowOf_183 : decode prog_7_method_37_code 183 = .ok (.if_icmp .ne 8, 3) := by decide +kernel
theorem d_Mo_belowOf_186 : decode prog_7_method_37_code 186 = .ok (.iload 6, 2) := by decide +kernel
theorem d_Mo_belowOf_188 : decode prog_7_method_37_code 188 = .ok (.goto 10, 3) := by decide +kernel
theorem d_Mo_belowOf_191 : decode prog_7_method_37_code 191 = .ok (.iload 6, 2) := by decide +kernel
theorem d_Mo_belowOf_193 : decode prog_7_method_37_code 193 = .ok (.iconst 1, 1) := by decide +kernel
theorem d_Mo_belowOf_194 : decode prog_7_method_37_code 194 = .ok (.iload 9, 2) := by decide +kernel
theorem d_Mo_belowOf_196 : decode prog_7_method_37_code 196 = .ok (.ishl, 1) := by decide +kernel
theorem d_Mo_belowOf_197 : decode prog_7_method_37_code 197 = .ok (.ior, 1) := by decide +kernel
theorem d_Mo_belowOf_198 : decode prog_7_method_37_code 198 = .ok (.istore 6, 2) := by decide +kernel
theorem d_Mo_belowOf_200 : decode prog_7_method_37_code 200 = .ok (.iinc 8 1, 3) := by decide +kernel
theorem d_Mo_belowOf_203 : decode prog_7_method_37_code 203 = .ok (.iinc 9 1, 3) := by decide +kernel
theorem d_Mo_belowOf_206 : decode prog_7_method_37_code 206 = .ok (.goto (-96), 3) := by decide +kernel
theorem d_Mo_belowOf_209 : decode prog_7_method_37_code 209 = .ok (.iload 6, 2) := by decide +kernel
theorem d_Mo_belowOf_211 : decode prog_7_method_37_code 211 = .ok (.ireturn, 1) := by decide +kernel
def f_R_belowOf (m_signOf_n : Nat) (m_signOf : Nat → Int32) (m_rankOf_n : Nat) (m_rankOf : Nat → Int32) (m_elements_n : Nat) (m_elements : Nat → Int32) (m_sorted_n : Nat) (m_sorted : Nat → Int32) (k0 : Int32) (cir0 : Int32) : Option (Int32 × (Nat → Int32)) :=
  ck_jn (fun (v3_1 : Int32) => ck_nm (cir0 ^^^ ((1 : Int32) <<< (v3_1 &&& 31))) <| fun x_2 => ck_jn (fun (v4_3 : Int32) => lo5 (fun k_110 (v9_4 : Int32) (v8_5 : Int32) (v7_6 : Int32) (v6_7 : Int32) (w_8 : Nat → Int32) => ck_in k0 m_elements_n <| ck_if ((m_elements k0.toNatClampNeg) ≤ v9_4) (some (v6_7, w_8)) (ck_jn (fun (v6_11 : Int32) (v7_12 : Int32) (v8_13 : Int32) (w_14 : Nat → Int32) => ck_nm (v9_4 + 1) <| fun x_15 => k_110 x_15 v8_13 v7_12 v6_11 w_14) <| fun k_203 => ck_if (((cir0 >>> (v9_4 &&& 31)) &&& 1) = 0) (k_203 v6_7 v7_6 v8_5 w_8) (ck_b2 (f_R_determinantOf m_signOf_n m_signOf m_elements_n m_elements m_sorted_n w_8 k0 (cir0 ^^^ ((1 : Int32) <<< (v9_4 &&& 31))) v4_3) <| fun r_17 u_18 => ck_jn (fun (s0_20 : Int32) => ck_jn (fun (s0_21 : Int32) => ck_jn (fun (s0_22 : Int32) => ck_nm (v8_5 + 1) <| fun x_23 => k_203 s0_22 s0_21 x_23 u_18) <| fun k_198 => ck_if (s0_20 = s0_21) (k_198 v6_7) (k_198 (v6_7 ||| ((1 : Int32) <<< (v9_4 &&& 31))))) <| fun k_177 => ck_if (v8_5 = 0) (k_177 s0_20) (k_177 v7_6)) <| fun k_163 => ck_if ((v8_5 - v8_5 / 2 * 2) = 0) (k_163 r_17) (k_163 (-r_17))))) ck_F 0 0 0 0 m_sorted) <| fun k_98 => lo2 (fun k_29 (v6_27 : Int32) (v4_28 : Int32) => ck_in k0 m_elements_n <| ck_if ((m_elements k0.toNatClampNeg) ≤ v6_27) (k_98 v4_28) (ck_nm (x_2 ||| v4_28) <| fun x_31 => ck_jn (fun (s0_32 : Int32) => ck_nm (v6_27 + 1) <| fun x_33 => k_29 x_33 s0_32) <| fun k_90 => ck_jn (fun (_ : Unit) => k_90 v4_28) <| fun k_88 => ck_if (((cir0 >>> (v6_27 &&& 31)) &&& 1) = 0) (ck_b1 (f_R_r m_rankOf_n m_rankOf k0 (x_31 ||| ((1 : Int32) <<< (v6_27 &&& 31)))) <| fun r_35 => ck_b1 (f_R_r m_rankOf_n m_rankOf k0 x_31) <| fun r_37 => ck_if (r_35 ≤ r_37) (k_88 ()) (k_90 (v4_28 ||| ((1 : Int32) <<< (v6_27 &&& 31))))) (k_88 ()))) ck_F 0 0) <| fun k_16 => lo1 (fun k_2 (v3_40 : Int32) => ck_if (((cir0 >>> (v3_40 &&& 31)) &&& 1) = 0) (ck_nm (v3_40 + 1) <| fun x_42 => k_2 x_42) (k_16 v3_40)) ck_F 0
set_option maxHeartbeats 4000000 in
set_option maxRecDepth 100000 in
theorem c_R_belowOf (l : Launch) (dC : Nat → ClassId) (dI : Nat → Nat → Nat) (cI cJ cB cZ cT cN : ClassId) (sz : Nat) (h_m : Nat) (h_m_one : Nat) (h_m_two : Nat) (h_m_three : Nat) (h_m_four : Nat) (h_m_five : Nat) (h_m_six : Nat) (h_m_seven : Nat) (h_m_eight : Nat) (h_m_work : Nat) (h_m_small : Nat) (h_m_pivots : Nat) (h_m_freeRows : Nat) (h_m_freeColumns : Nat) (h_m_minor : Nat) (h_m_smallMinor : Nat) (h_m_fields : Nat) (h_m_rowCounts : Nat) (h_m_elements : Nat) (h_m_numbers : Nat) (h_m_known : Nat) (h_m_ranks : Nat) (h_m_rankOf : Nat) (h_m_signOf : Nat) (h_m_order : Nat) (h_m_sizes : Nat) (h_m_coefficients : Nat) (h_m_choices : Nat) (h_m_sorted : Nat) (m_rows : Int32) (m_columns : Int32) (m_prime : Int32) (m_signOf_n : Nat) (m_signOf : Nat → Int32) (m_rankOf_n : Nat) (m_rankOf : Nat → Int32) (m_elements_n : Nat) (m_elements : Nat → Int32) (m_sorted_n : Nat) (m_sorted : Nat → Int32) (k0 : Int32) (cir0 : Int32) (r : Int32 × (Nat → Int32)) (h : f_R_belowOf m_signOf_n m_signOf m_rankOf_n m_rankOf m_elements_n m_elements m_sorted_n m_sorted k0 cir0 = some r) : Met l y_Mo_belowOf w_Mo_belowOf ({ frames := 2, cells := 0, slots := 0, locals := 50 } : Room) (va_Pc [.ref h_m, .int k0, .int cir0] (fun U => U.heap.size = sz ∧ va_P (dC, dI) cl_all [(h_m, .inr (6, [.ref h_m_one, .ref h_m_two, .ref h_m_three, .ref h_m_four, .ref h_m_five, .ref h_m_six, .ref h_m_seven, .ref h_m_eight, .ref h_m_work, .ref h_m_small, .int m_rows, .int m_columns, .int m_prime, .ref h_m_pivots, .ref h_m_freeRows, .ref h_m_freeColumns, .ref h_m_minor, .ref h_m_smallMinor, .ref h_m_fields, .ref h_m_rowCounts, .ref h_m_elements, .ref h_m_numbers, .ref h_m_known, .ref h_m_ranks, .ref h_m_rankOf, .ref h_m_signOf, .ref h_m_order, .ref h_m_sizes, .ref h_m_coefficients, .ref h_m_choices, .ref h_m_sorted])), (h_m_signOf, .inl (cB, m_signOf_n, .inl m_signOf)), (h_m_rankOf, .inl (cB, m_rankOf_n, .inl m_rankOf)), (h_m_elements, .inl (cI, m_elements_n, .inl m_elements)), (h_m_sorted, .inl (cI, m_sorted_n, .inl m_sorted))] U.heap ∧ va_K (dC, dI) cl_all [(cI, .int), (cJ, .long), (cB, .byte), (cZ, .boolean), (cT, .object "BasisWalk$Table"), (cN, .object "BasisWalkModel$Num")] U ∧ NW U ∧ va_D (fun _ => True) [(h_m, .inr (6, [.ref h_m_one, .ref h_m_two, .ref h_m_three, .ref h_m_four, .ref h_m_five, .ref h_m_six, .ref h_m_seven, .ref h_m_eight, .ref h_m_work, .ref h_m_small, .int m_rows, .int m_columns, .int m_prime, .ref h_m_pivots, .ref h_m_freeRows, .ref h_m_freeColumns, .ref h_m_minor, .ref h_m_smallMinor, .ref h_m_fields, .ref h_m_rowCounts, .ref h_m_elements, .ref h_m_numbers, .ref h_m_known, .ref h_m_ranks, .ref h_m_rankOf, .ref h_m_signOf, .ref h_m_order, .ref h_m_sizes, .ref h_m_coefficients, .ref h_m_choices, .ref h_m_sorted])), (h_m_signOf, .inl (cB, m_signOf_n, .inl m_signOf)), (h_m_rankOf, .inl (cB, m_rankOf_n, .inl m_rankOf)), (h_m_elements, .inl (cI, m_elements_n, .inl m_elements)), (h_m_sorted, .inl (cI, m_sorted_n, .inl m_sorted))])) (va_Qi (fun (v : Int32) (u : (Nat → Int32)) => (v, u) = r) (fun (u : (Nat → Int32)) (t : State) => va_P (dC, dI) cl_all [(h_m, .inr (6, [.ref h_m_one, .ref h_m_two, .ref h_m_three, .ref h_m_four, .ref h_m_five, .ref h_m_six, .ref h_m_seven, .ref h_m_eight, .ref h_m_work, .ref h_m_small, .int m_rows, .int m_columns, .int m_prime, .ref h_m_pivots, .ref h_m_freeRows, .ref h_m_freeColumns, .ref h_m_minor, .ref h_m_smallMinor, .ref h_m_fields, .ref h_m_rowCounts, .ref h_m_elements, .ref h_m_numbers, .ref h_m_known, .ref h_m_ranks, .ref h_m_rankOf, .ref h_m_signOf, .ref h_m_order, .ref h_m_sizes, .ref h_m_coefficients, .ref h_m_choices, .ref h_m_sorted])), (h_m_signOf, .inl (cB, m_signOf_n, .inl m_signOf)), (h_m_rankOf, .inl (cB, m_rankOf_n, .inl m_rankOf)), (h_m_elements, .inl (cI, m_elements_n, .inl m_elements)), (h_m_sorted, .inl (cI, m_sorted_n, .inl u))] t.heap ∧ va_K (dC, dI) cl_all [(cI, .int), (cJ, .long), (cB, .byte), (cZ, .boolean), (cT, .object "BasisWalk$Table"), (cN, .object "BasisWalkModel$Num")] t ∧ va_D (va_A [(h_m, .inr (6, [.ref h_m_one, .ref h_m_two, .ref h_m_three, .ref h_m_four, .ref h_m_five, .ref h_m_six, .ref h_m_seven, .ref h_m_eight, .ref h_m_work, .ref h_m_small, .int m_rows, .int m_columns, .int m_prime, .ref h_m_pivots, .ref h_m_freeRows, .ref h_m_freeColumns, .ref h_m_minor, .ref h_m_smallMinor, .ref h_m_fields, .ref h_m_rowCounts, .ref h_m_elements, .ref h_m_numbers, .ref h_m_known, .ref h_m_ranks, .ref h_m_rankOf, .ref h_m_signOf, .ref h_m_order, .ref h_m_sizes, .ref h_m_coefficients, .ref h_m_choices, .ref h_m_sorted])), (h_m_signOf, .inl (cB, m_signOf_n, .inl m_signOf)), (h_m_rankOf, .inl (cB, m_rankOf_n, .inl m_rankOf)), (h_m_elements, .inl (cI, m_elements_n, .inl m_elements)), (h_m_sorted, .inl (cI, m_sorted_n, .inl m_sorted))] sz) [(h_m, .inr (6, [.ref h_m_one, .ref h_m_two, .ref h_m_three, .ref h_m_four, .ref h_m_five, .ref h_m_six, .ref h_m_seven, .ref h_m_eight, .ref h_m_work, .ref h_m_small, .int m_rows, .int m_columns, .int m_prime, .ref h_m_pivots, .ref h_m_freeRows, .ref h_m_freeColumns, .ref h_m_minor, .ref h_m_smallMinor, .ref h_m_fields, .ref h_m_rowCounts, .ref h_m_elements, .ref h_m_numbers, .ref h_m_known, .ref h_m_ranks, .ref h_m_rankOf, .ref h_m_signOf, .ref h_m_order, .ref h_m_sizes, .ref h_m_coefficients, .ref h_m_choices, .ref h_m_sorted])), (h_m_signOf, .inl (cB, m_signOf_n, .inl m_signOf)), (h_m_rankOf, .inl (cB, m_rankOf_n, .inl m_rankOf)), (h_m_elements, .inl (cI, m_elements_n, .inl m_elements)), (h_m_sorted, .inl (cI, m_sorted_n, .inl u))]) (va_A [(h_m, .inr (6, [.ref h_m_one, .ref h_m_two, .ref h_m_three, .ref h_m_four, .ref h_m_five, .ref h_m_six, .ref h_m_seven, .ref h_m_eight, .ref h_m_work, .ref h_m_small, .int m_rows, .int m_columns, .int m_prime, .ref h_m_pivots, .ref h_m_freeRows, .ref h_m_freeColumns, .ref h_m_minor, .ref h_m_smallMinor, .ref h_m_fields, .ref h_m_rowCounts, .ref h_m_elements, .ref h_m_numbers, .ref h_m_known, .ref h_m_ranks, .ref h_m_rankOf, .ref h_m_signOf, .ref h_m_order, .ref h_m_sizes, .ref h_m_coefficients, .ref h_m_choices, .ref h_m_sorted])), (h_m_signOf, .inl (cB, m_signOf_n, .inl m_signOf)), (h_m_rankOf, .inl (cB, m_rankOf_n, .inl m_rankOf)), (h_m_elements, .inl (cI, m_elements_n, .inl m_elements)), (h_m_sorted, .inl (cI, m_sorted_n, .inl m_sorted))] sz)) 0 0 (va_A [(h_m, .inr (6, [.ref h_m_one, .ref h_m_two, .ref h_m_three, .ref h_m_four, .ref h_m_five, .ref h_m_six, .ref h_m_seven, .ref h_m_eight, .ref h_m_work, .ref h_m_small, .int m_rows, .int m_columns, .int m_prime, .ref h_m_pivots, .ref h_m_freeRows, .ref h_m_freeColumns, .ref h_m_minor, .ref h_m_smallMinor, .ref h_m_fields, .ref h_m_rowCounts, .ref h_m_elements, .ref h_m_numbers, .ref h_m_known, .ref h_m_ranks, .ref h_m_rankOf, .ref h_m_signOf, .ref h_m_order, .ref h_m_sizes, .ref h_m_coefficients, .ref h_m_choices, .ref h_m_sorted])), (h_m_signOf, .inl (cB, m_signOf_n, .inl m_signOf)), (h_m_rankOf, .inl (cB, m_rankOf_n, .inl m_rankOf)), (h_m_elements, .inl (cI, m_elements_n, .inl m_elements)), (h_m_sorted, .inl (cI, m_sorted_n, .inl m_sorted))] sz) := by
  refine Met.ofW (cc := prog_7_method_37_code) (maxL := 11) (ret := (Option.some Jvm.ClassFile.FieldType.int)) (by decide) rfl ?_
  intro p e s m args below meth c s₁ B hml hv
  obtain ⟨hAR, hsz, hP, hK, hN, hD0⟩ := hv
  have hx := B.exec
  have hb := B.bytes
  have hr := B.returns
  have hts := atoms_spec (ws := w_Mo_belowOf) B.pre
  have hown : s.vm.findClass "BasisWalkModel" = some m.cls := findClass_of_methodNamed B.named
  have hlocks := B.notSynchronized
  clear B
  subst hsz
  have hD := hD0.self (sz := s.heap.size)
  generalize hAe : va_A [(h_m, .inr (6, [.ref h_m_one, .ref h_m_two, .ref h_m_three, .ref h_m_four, .ref h_m_five, .ref h_m_six, .ref h_m_seven, .ref h_m_eight, .ref h_m_work, .ref h_m_small, .int m_rows, .int m_columns, .int m_prime, .ref h_m_pivots, .ref h_m_freeRows, .ref h_m_freeColumns, .ref h_m_minor, .ref h_m_smallMinor, .ref h_m_fields, .ref h_m_rowCounts, .ref h_m_elements, .ref h_m_numbers, .ref h_m_known, .ref h_m_ranks, .ref h_m_rankOf, .ref h_m_signOf, .ref h_m_order, .ref h_m_sizes, .ref h_m_coefficients, .ref h_m_choices, .ref h_m_sorted])), (h_m_signOf, .inl (cB, m_signOf_n, .inl m_signOf)), (h_m_rankOf, .inl (cB, m_rankOf_n, .inl m_rankOf)), (h_m_elements, .inl (cI, m_elements_n, .inl m_elements)), (h_m_sorted, .inl (cI, m_sorted_n, .inl m_sorted))] s.heap.size = A at hD ⊢
  have hA : ∀ q : Nat, s.heap.size ≤ q → A q := fun q h => by rw [← hAe]; exact Or.inr h
  clear hAe hD0
  have hS : va_S A s.heap s.heap [] := va_S.rf
  have hl := lv_entry ([.ref h_m, .int k0, .int cir0]) (n := 11) (Nat.le_of_ble_eq_true rfl)
  subst hAR
  rw [lg_entry_eq]
  generalize (lg_sl ([.ref h_m, .int k0, .int cir0]) ++ List.replicate (11 - (lg_sl ([.ref h_m, .int k0, .int cir0])).length) Slot.unset).toArray = ls at hl ⊢
  have hl : lv_has ls 11 [(0, .ref h_m), (1, .int k0), (2, .int cir0)] := hl
  change W p l e ({ frames := 2, cells := 0, slots := 0, locals := 50 } : Room) s m _ below meth c s.heap [] 0 0 _ _
  generalize hARe : ([.ref h_m, .int k0, .int cir0] : List Value).toArray = AR at hts ⊢
  clear hARe
  generalize hQ : MQ below _ AR s 0 0 A = QQ
  have fl0 := hts _ (List.mem_cons_of_mem _ tw_375)
  have iw1 := (fun w hw => List.mem_cons_of_mem _ (in_Mo w hw) : ∀ w ∈ u_ws "BasisWalkModel" T_Mo 31, w ∈ w_Mo_belowOf)
  obtain ⟨H, hHe⟩ : ∃ H : Heap, H = s.heap := ⟨_, rfl⟩
  rw [← hHe] at hP ⊢
  replace hS : va_S A s.heap H [] := by rw [hHe]; exact va_S.rf
  clear hHe
  unfold f_R_belowOf at h
  refine lv_iconst (v := 0) hx hb d_Mo_belowOf_0 (by decide) ?_
  refine lv_istore_n (lv' := [(3, .int 0), (0, .ref h_m), (1, .int k0), (2, .int cir0)]) hx hb d_Mo_belowOf_1 rfl hl (by decide) rfl (fun ls hl => ?_)
  refine ck_jn_W h (fun k' => ∀ (v3_1 : Int32), k' v3_1 = some r → ∀ (H : Heap) (locs : List Loc), va_P (dC, dI) cl_all [(h_m, .inr (6, [.ref h_m_one, .ref h_m_two, .ref h_m_three, .ref h_m_four, .ref h_m_five, .ref h_m_six, .ref h_m_seven, .ref h_m_eight, .ref h_m_work, .ref h_m_small, .int m_rows, .int m_columns, .int m_prime, .ref h_m_pivots, .ref h_m_freeRows, .ref h_m_freeColumns, .ref h_m_minor, .ref h_m_smallMinor, .ref h_m_fields, .ref h_m_rowCounts, .ref h_m_elements, .ref h_m_numbers, .ref h_m_known, .ref h_m_ranks, .ref h_m_rankOf, .ref h_m_signOf, .ref h_m_order, .ref h_m_sizes, .ref h_m_coefficients, .ref h_m_choices, .ref h_m_sorted])), (h_m_signOf, .inl (cB, m_signOf_n, .inl m_signOf)), (h_m_rankOf, .inl (cB, m_rankOf_n, .inl m_rankOf)), (h_m_elements, .inl (cI, m_elements_n, .inl m_elements)), (h_m_sorted, .inl (cI, m_sorted_n, .inl m_sorted))] H → va_D A [(h_m, .inr (6, [.ref h_m_one, .ref h_m_two, .ref h_m_three, .ref h_m_four, .ref h_m_five, .ref h_m_six, .ref h_m_seven, .ref h_m_eight, .ref h_m_work, .ref h_m_small, .int m_rows, .int m_columns, .int m_prime, .ref h_m_pivots, .ref h_m_freeRows, .ref h_m_freeColumns, .ref h_m_minor, .ref h_m_smallMinor, .ref h_m_fields, .ref h_m_rowCounts, .ref h_m_elements, .ref h_m_numbers, .ref h_m_known, .ref h_m_ranks, .ref h_m_rankOf, .ref h_m_signOf, .ref h_m_order, .ref h_m_sizes, .ref h_m_coefficients, .ref h_m_choices, .ref h_m_sorted])), (h_m_signOf, .inl (cB, m_signOf_n, .inl m_signOf)), (h_m_rankOf, .inl (cB, m_rankOf_n, .inl m_rankOf)), (h_m_elements, .inl (cI, m_elements_n, .inl m_elements)), (h_m_sorted, .inl (cI, m_sorted_n, .inl m_sorted))] → va_S A s.heap H locs → ∀ ls : Array Slot, lv_has ls 11 [(0, .ref h_m), (1, .int k0), (2, .int cir0), (3, .int v3_1)] → W p l e ({ frames := 2, cells := 0, slots := 0, locals := 50 } : Room) s m AR below meth c H locs 0 0 QQ (F0 m 16 ls [])) ?_ ?_
  · intro v3_1 h H locs hP hD hS ls hl
    refine lv_iconst (v := 0) hx hb d_Mo_belowOf_16 (by decide) ?_
    refine lv_istore (lv' := [(4, .int 0), (0, .ref h_m), (1, .int k0), (2, .int cir0), (3, .int v3_1)]) hx hb d_Mo_belowOf_17 hl (by decide) rfl (fun ls hl => ?_)
    refine lv_iload_n hx hb d_Mo_belowOf_19 rfl (lv_at hl 3 rfl) ?_
    refine lv_iconst (v := 1) hx hb d_Mo_belowOf_20 (by decide) ?_
    refine lv_iload_n hx hb d_Mo_belowOf_21 rfl (lv_at hl 4 rfl) ?_
    refine lv_ishl hx hb d_Mo_belowOf_22 ?_
    refine lv_ixor hx hb d_Mo_belowOf_23 ?_
    refine lv_topi (fun x_2 ex_2 => ?_)
    replace h := ck_nm_s h ex_2
    refine lv_istore (lv' := [(5, .int x_2), (4, .int 0), (0, .ref h_m), (1, .int k0), (2, .int cir0), (3, .int v3_1)]) hx hb d_Mo_belowOf_24 hl (by decide) rfl (fun ls hl => ?_)
    refine lv_iconst (v := 0) hx hb d_Mo_belowOf_26 (by decide) ?_
    refine lv_istore (lv' := [(6, .int 0), (5, .int x_2), (4, .int 0), (0, .ref h_m), (1, .int k0), (2, .int cir0), (3, .int v3_1)]) hx hb d_Mo_belowOf_27 hl (by decide) rfl (fun ls hl => ?_)
    refine ck_jn_W h (fun k' => ∀ (v4_3 : Int32), k' v4_3 = some r → ∀ (H : Heap) (locs : List Loc), va_P (dC, dI) cl_all [(h_m, .inr (6, [.ref h_m_one, .ref h_m_two, .ref h_m_three, .ref h_m_four, .ref h_m_five, .ref h_m_six, .ref h_m_seven, .ref h_m_eight, .ref h_m_work, .ref h_m_small, .int m_rows, .int m_columns, .int m_prime, .ref h_m_pivots, .ref h_m_freeRows, .ref h_m_freeColumns, .ref h_m_minor, .ref h_m_smallMinor, .ref h_m_fields, .ref h_m_rowCounts, .ref h_m_elements, .ref h_m_numbers, .ref h_m_known, .ref h_m_ranks, .ref h_m_rankOf, .ref h_m_signOf, .ref h_m_order, .ref h_m_sizes, .ref h_m_coefficients, .ref h_m_choices, .ref h_m_sorted])), (h_m_signOf, .inl (cB, m_signOf_n, .inl m_signOf)), (h_m_rankOf, .inl (cB, m_rankOf_n, .inl m_rankOf)), (h_m_elements, .inl (cI, m_elements_n, .inl m_elements)), (h_m_sorted, .inl (cI, m_sorted_n, .inl m_sorted))] H → va_D A [(h_m, .inr (6, [.ref h_m_one, .ref h_m_two, .ref h_m_three, .ref h_m_four, .ref h_m_five, .ref h_m_six, .ref h_m_seven, .ref h_m_eight, .ref h_m_work, .ref h_m_small, .int m_rows, .int m_columns, .int m_prime, .ref h_m_pivots, .ref h_m_freeRows, .ref h_m_freeColumns, .ref h_m_minor, .ref h_m_smallMinor, .ref h_m_fields, .ref h_m_rowCounts, .ref h_m_elements, .ref h_m_numbers, .ref h_m_known, .ref h_m_ranks, .ref h_m_rankOf, .ref h_m_signOf, .ref h_m_order, .ref h_m_sizes, .ref h_m_coefficients, .ref h_m_choices, .ref h_m_sorted])), (h_m_signOf, .inl (cB, m_signOf_n, .inl m_signOf)), (h_m_rankOf, .inl (cB, m_rankOf_n, .inl m_rankOf)), (h_m_elements, .inl (cI, m_elements_n, .inl m_elements)), (h_m_sorted, .inl (cI, m_sorted_n, .inl m_sorted))] → va_S A s.heap H locs → ∀ ls : Array Slot, lv_has ls 11 [(0, .ref h_m), (1, .int k0), (2, .int cir0), (4, .int v4_3)] → W p l e ({ frames := 2, cells := 0, slots := 0, locals := 50 } : Room) s m AR below meth c H locs 0 0 QQ (F0 m 98 ls [])) ?_ ?_
    · intro v4_3 h H locs hP hD hS ls hl
      refine lv_iconst (v := 0) hx hb d_Mo_belowOf_98 (by decide) ?_
      refine lv_istore (lv' := [(6, .int 0), (0, .ref h_m), (1, .int k0), (2, .int cir0), (4, .int v4_3)]) hx hb d_Mo_belowOf_99 hl (by decide) rfl (fun ls hl => ?_)
      refine lv_iconst (v := 0) hx hb d_Mo_belowOf_101 (by decide) ?_
      refine lv_istore (lv' := [(7, .int 0), (6, .int 0), (0, .ref h_m), (1, .int k0), (2, .int cir0), (4, .int v4_3)]) hx hb d_Mo_belowOf_102 hl (by decide) rfl (fun ls hl => ?_)
      refine lv_iconst (v := 0) hx hb d_Mo_belowOf_104 (by decide) ?_
      refine lv_istore (lv' := [(8, .int 0), (7, .int 0), (6, .int 0), (0, .ref h_m), (1, .int k0), (2, .int cir0), (4, .int v4_3)]) hx hb d_Mo_belowOf_105 hl (by decide) rfl (fun ls hl => ?_)
      refine lv_iconst (v := 0) hx hb d_Mo_belowOf_107 (by decide) ?_
      refine lv_istore (lv' := [(9, .int 0), (8, .int 0), (7, .int 0), (6, .int 0), (0, .ref h_m), (1, .int k0), (2, .int cir0), (4, .int v4_3)]) hx hb d_Mo_belowOf_108 hl (by decide) rfl (fun ls hl => ?_)
      refine lo5_W (r := r) (fun (v9_4 : Int32) (v8_5 : Int32) (v7_6 : Int32) (v6_7 : Int32) (w_8 : Nat → Int32) => ∀ (H : Heap) (locs : List Loc), va_P (dC, dI) cl_all [(h_m, .inr (6, [.ref h_m_one, .ref h_m_two, .ref h_m_three, .ref h_m_four, .ref h_m_five, .ref h_m_six, .ref h_m_seven, .ref h_m_eight, .ref h_m_work, .ref h_m_small, .int m_rows, .int m_columns, .int m_prime, .ref h_m_pivots, .ref h_m_freeRows, .ref h_m_freeColumns, .ref h_m_minor, .ref h_m_smallMinor, .ref h_m_fields, .ref h_m_rowCounts, .ref h_m_elements, .ref h_m_numbers, .ref h_m_known, .ref h_m_ranks, .ref h_m_rankOf, .ref h_m_signOf, .ref h_m_order, .ref h_m_sizes, .ref h_m_coefficients, .ref h_m_choices, .ref h_m_sorted])), (h_m_signOf, .inl (cB, m_signOf_n, .inl m_signOf)), (h_m_rankOf, .inl (cB, m_rankOf_n, .inl m_rankOf)), (h_m_elements, .inl (cI, m_elements_n, .inl m_elements)), (h_m_sorted, .inl (cI, m_sorted_n, .inl w_8))] H → va_D A [(h_m, .inr (6, [.ref h_m_one, .ref h_m_two, .ref h_m_three, .ref h_m_four, .ref h_m_five, .ref h_m_six, .ref h_m_seven, .ref h_m_eight, .ref h_m_work, .ref h_m_small, .int m_rows, .int m_columns, .int m_prime, .ref h_m_pivots, .ref h_m_freeRows, .ref h_m_freeColumns, .ref h_m_minor, .ref h_m_smallMinor, .ref h_m_fields, .ref h_m_rowCounts, .ref h_m_elements, .ref h_m_numbers, .ref h_m_known, .ref h_m_ranks, .ref h_m_rankOf, .ref h_m_signOf, .ref h_m_order, .ref h_m_sizes, .ref h_m_coefficients, .ref h_m_choices, .ref h_m_sorted])), (h_m_signOf, .inl (cB, m_signOf_n, .inl m_signOf)), (h_m_rankOf, .inl (cB, m_rankOf_n, .inl m_rankOf)), (h_m_elements, .inl (cI, m_elements_n, .inl m_elements)), (h_m_sorted, .inl (cI, m_sorted_n, .inl w_8))] → va_S A s.heap H locs → ∀ ls : Array Slot, lv_has ls 11 [(0, .ref h_m), (1, .int k0), (2, .int cir0), (4, .int v4_3), (6, .int v6_7), (7, .int v7_6), (8, .int v8_5), (9, .int v9_4)] → W p l e ({ frames := 2, cells := 0, slots := 0, locals := 50 } : Room) s m AR below meth c H locs 0 0 QQ (F0 m 110 ls [])) ?_ _ _ _ _ _ _ h _ _ hP hD hS _ (lv_sub hl [4, 5, 6, 7, 3, 2, 1, 0] rfl)
      intro k_110 v9_4 v8_5 v7_6 v6_7 w_8 J_110 h H locs hP hD hS ls hl
      refine lv_iload hx hb d_Mo_belowOf_110 (lv_at hl 7 rfl) ?_
      refine lv_aload_n hx hb d_Mo_belowOf_112 rfl (lv_at hl 0 rfl) ?_
      refine va_get (D := (dC, dI)) (ci := 6) (v := .ref h_m_elements) (C := "BasisWalkModel") (T := T_Mo) (N := 31) hx hb hts iw1 hown hK hP 0 rfl rfl 20 (by decide) fl0 (fun _ h9 => h9) rfl d_Mo_belowOf_113 ?_
      refine lv_iload_n hx hb d_Mo_belowOf_116 rfl (lv_at hl 1 rfl) ?_
      obtain ⟨g_9, h⟩ := ck_in_s h
      refine va_iald hx hb hK hP 3 0 rfl rfl g_9 d_Mo_belowOf_117 ?_
      refine lv_icmp_ge (tgt := 209) hx hb d_Mo_belowOf_118 (by decide) (fun c_10 => ?_) (fun c_10 => ?_)
      · replace h := ck_if_t h c_10
        refine lv_iload hx hb d_Mo_belowOf_209 (lv_at hl 4 rfl) ?_
        obtain rfl := Option.some.inj h
        subst hQ
        exact W.iret (v := v6_7) hx hb hr (fun t ht hW => ⟨⟨v6_7, w_8, rfl, rfl, by rw [ht]; exact hP, va_K.moved hW.alike hK, hD⟩, hS.F ht⟩) hS.2.2 d_Mo_belowOf_211
      · replace h := ck_if_f h c_10
        refine lv_iload_n hx hb d_Mo_belowOf_121 rfl (lv_at hl 2 rfl) ?_
        refine lv_iload hx hb d_Mo_belowOf_122 (lv_at hl 7 rfl) ?_
        refine lv_ishr hx hb d_Mo_belowOf_124 ?_
        refine lv_iconst (v := 1) hx hb d_Mo_belowOf_125 (by decide) ?_
        refine lv_iand hx hb d_Mo_belowOf_126 ?_
        refine ck_jn_W h (fun k' => ∀ (v6_11 : Int32) (v7_12 : Int32) (v8_13 : Int32) (w_14 : Nat → Int32), k' v6_11 v7_12 v8_13 w_14 = some r → ∀ (H : Heap) (locs : List Loc), va_P (dC, dI) cl_all [(h_m, .inr (6, [.ref h_m_one, .ref h_m_two, .ref h_m_three, .ref h_m_four, .ref h_m_five, .ref h_m_six, .ref h_m_seven, .ref h_m_eight, .ref h_m_work, .ref h_m_small, .int m_rows, .int m_columns, .int m_prime, .ref h_m_pivots, .ref h_m_freeRows, .ref h_m_freeColumns, .ref h_m_minor, .ref h_m_smallMinor, .ref h_m_fields, .ref h_m_rowCounts, .ref h_m_elements, .ref h_m_numbers, .ref h_m_known, .ref h_m_ranks, .ref h_m_rankOf, .ref h_m_signOf, .ref h_m_order, .ref h_m_sizes, .ref h_m_coefficients, .ref h_m_choices, .ref h_m_sorted])), (h_m_signOf, .inl (cB, m_signOf_n, .inl m_signOf)), (h_m_rankOf, .inl (cB, m_rankOf_n, .inl m_rankOf)), (h_m_elements, .inl (cI, m_elements_n, .inl m_elements)), (h_m_sorted, .inl (cI, m_sorted_n, .inl w_14))] H → va_D A [(h_m, .inr (6, [.ref h_m_one, .ref h_m_two, .ref h_m_three, .ref h_m_four, .ref h_m_five, .ref h_m_six, .ref h_m_seven, .ref h_m_eight, .ref h_m_work, .ref h_m_small, .int m_rows, .int m_columns, .int m_prime, .ref h_m_pivots, .ref h_m_freeRows, .ref h_m_freeColumns, .ref h_m_minor, .ref h_m_smallMinor, .ref h_m_fields, .ref h_m_rowCounts, .ref h_m_elements, .ref h_m_numbers, .ref h_m_known, .ref h_m_ranks, .ref h_m_rankOf, .ref h_m_signOf, .ref h_m_order, .ref h_m_sizes, .ref h_m_coefficients, .ref h_m_choices, .ref h_m_sorted])), (h_m_signOf, .inl (cB, m_signOf_n, .inl m_signOf)), (h_m_rankOf, .inl (cB, m_rankOf_n, .inl m_rankOf)), (h_m_elements, .inl (cI, m_elements_n, .inl m_elements)), (h_m_sorted, .inl (cI, m_sorted_n, .inl w_14))] → va_S A s.heap H locs → ∀ ls : Array Slot, lv_has ls 11 [(0, .ref h_m), (1, .int k0), (2, .int cir0), (4, .int v4_3), (6, .int v6_11), (7, .int v7_12), (8, .int v8_13), (9, .int v9_4)] → W p l e ({ frames := 2, cells := 0, slots := 0, locals := 50 } : Room) s m AR below meth c H locs 0 0 QQ (F0 m 203 ls [])) ?_ ?_
        · intro v6_11 v7_12 v8_13 w_14 h H locs hP hD hS ls hl
          obtain ⟨x_15, ex_15⟩ : ∃ y : Int32, y = v9_4 + 1 := ⟨_, rfl⟩
          replace h := ck_nm_s h ex_15
          refine lv_iinc (v := x_15) (lv' := [(9, .int x_15), (0, .ref h_m), (1, .int k0), (2, .int cir0), (4, .int v4_3), (6, .int v6_11), (7, .int v7_12), (8, .int v8_13)]) hx hb d_Mo_belowOf_203 hl (k := 7) rfl (by rw [ex_15]; rfl) (by decide) rfl (fun ls hl => ?_)
          refine lv_goto (tgt := 110) hx hb d_Mo_belowOf_206 (by decide) ?_
          exact J_110 _ _ _ _ _ h _ _ hP hD hS _ (lv_sub hl [1, 2, 3, 4, 5, 6, 7, 0] rfl)
        · intro k_203 J_203 h
          refine lv_if_ne (tgt := 133) hx hb d_Mo_belowOf_127 (by decide) (fun c_16 => ?_) (fun c_16 => ?_)
          · replace h := ck_if_f h c_16
            refine lv_aload_n hx hb d_Mo_belowOf_133 rfl (lv_at hl 0 rfl) ?_
            refine lv_iload_n hx hb d_Mo_belowOf_134 rfl (lv_at hl 1 rfl) ?_
            refine lv_iload_n hx hb d_Mo_belowOf_135 rfl (lv_at hl 2 rfl) ?_
            refine lv_iconst (v := 1) hx hb d_Mo_belowOf_136 (by decide) ?_
            refine lv_iload hx hb d_Mo_belowOf_137 (lv_at hl 7 rfl) ?_
            refine lv_ishl hx hb d_Mo_belowOf_139 ?_
            refine lv_ixor hx hb d_Mo_belowOf_140 ?_
            refine lv_iload hx hb d_Mo_belowOf_141 (lv_at hl 3 rfl) ?_
            obtain ⟨r_17, u_18, hc_19, h⟩ := ck_b2_s h
            have hPc := hP.sub (ws' := [(h_m, .inr (6, [.ref h_m_one, .ref h_m_two, .ref h_m_three, .ref h_m_four, .ref h_m_five, .ref h_m_six, .ref h_m_seven, .ref h_m_eight, .ref h_m_work, .ref h_m_small, .int m_rows, .int m_columns, .int m_prime, .ref h_m_pivots, .ref h_m_freeRows, .ref h_m_freeColumns, .ref h_m_minor, .ref h_m_smallMinor, .ref h_m_fields, .ref h_m_rowCounts, .ref h_m_elements, .ref h_m_numbers, .ref h_m_known, .ref h_m_ranks, .ref h_m_rankOf, .ref h_m_signOf, .ref h_m_order, .ref h_m_sizes, .ref h_m_coefficients, .ref h_m_choices, .ref h_m_sorted])), (h_m_signOf, .inl (cB, m_signOf_n, .inl m_signOf)), (h_m_elements, .inl (cI, m_elements_n, .inl m_elements)), (h_m_sorted, .inl (cI, m_sorted_n, .inl w_8))]) [0, 1, 3, 4] rfl
            have hDc := hD.sub (ws' := [(h_m, .inr (6, [.ref h_m_one, .ref h_m_two, .ref h_m_three, .ref h_m_four, .ref h_m_five, .ref h_m_six, .ref h_m_seven, .ref h_m_eight, .ref h_m_work, .ref h_m_small, .int m_rows, .int m_columns, .int m_prime, .ref h_m_pivots, .ref h_m_freeRows, .ref h_m_freeColumns, .ref h_m_minor, .ref h_m_smallMinor, .ref h_m_fields, .ref h_m_rowCounts, .ref h_m_elements, .ref h_m_numbers, .ref h_m_known, .ref h_m_ranks, .ref h_m_rankOf, .ref h_m_signOf, .ref h_m_order, .ref h_m_sizes, .ref h_m_coefficients, .ref h_m_choices, .ref h_m_sorted])), (h_m_signOf, .inl (cB, m_signOf_n, .inl m_signOf)), (h_m_elements, .inl (cI, m_elements_n, .inl m_elements)), (h_m_sorted, .inl (cI, m_sorted_n, .inl w_8))]) [0, 1, 3, 4] (by decide) rfl
            have hFc := va_free (wc := [(h_m, .inr (6, [.ref h_m_one, .ref h_m_two, .ref h_m_three, .ref h_m_four, .ref h_m_five, .ref h_m_six, .ref h_m_seven, .ref h_m_eight, .ref h_m_work, .ref h_m_small, .int m_rows, .int m_columns, .int m_prime, .ref h_m_pivots, .ref h_m_freeRows, .ref h_m_freeColumns, .ref h_m_minor, .ref h_m_smallMinor, .ref h_m_fields, .ref h_m_rowCounts, .ref h_m_elements, .ref h_m_numbers, .ref h_m_known, .ref h_m_ranks, .ref h_m_rankOf, .ref h_m_signOf, .ref h_m_order, .ref h_m_sizes, .ref h_m_coefficients, .ref h_m_choices, .ref h_m_sorted])), (h_m_signOf, .inl (cB, m_signOf_n, .inl m_signOf)), (h_m_elements, .inl (cI, m_elements_n, .inl m_elements)), (h_m_sorted, .inl (cI, m_sorted_n, .inl w_8))]) hD hS hA [0, 1, 3, 4] rfl
            refine va_calli (va_runV (As := [.int k0, .int (cir0 ^^^ ((1 : Int32) <<< (v9_4 &&& 31))), .int v4_3]) (rest := []) ⟨hx, hb, hml, hown, hts⟩ (c_R_determinantOf l dC dI cI cJ cB cZ cT cN H.size h_m h_m_one h_m_two h_m_three h_m_four h_m_five h_m_six h_m_seven h_m_eight h_m_work h_m_small h_m_pivots h_m_freeRows h_m_freeColumns h_m_minor h_m_smallMinor h_m_fields h_m_rowCounts h_m_elements h_m_numbers h_m_known h_m_ranks h_m_rankOf h_m_signOf h_m_order h_m_sizes h_m_coefficients h_m_choices h_m_sorted m_rows m_columns m_prime m_signOf_n m_signOf m_elements_n m_elements m_sorted_n w_8 k0 (cir0 ^^^ ((1 : Int32) <<< (v9_4 &&& 31))) v4_3 _ hc_19) (cwV 3 hts (tb_V tw_662 tw_664 tp_45 tw_6 tw_665) rfl rfl rfl (by decide +kernel) ⟨Nat.le_of_ble_eq_true rfl, Nat.le_of_ble_eq_true rfl⟩) ⟨fun a U g mk q => by obtain ⟨q0, q1, qP, qK, qN, qD⟩ := q; exact ⟨q0, q1, qP, va_K.moved (u := U) (U := U.calling g mk a) (Vm.Alike.refl U.vm) qK, qN.same rfl, qD⟩, va_recv hK hPc (ci := 6) (q0 := 0) rfl rfl, fun U hU hW => ⟨rfl, by rw [hU], by rw [hU]; exact hPc, va_K.moved hW.alike hK, hN.warm hW, hDc.weaken (fun _ _ _ _ => trivial)⟩⟩ rfl rfl hl.1 rfl (lv_room (Nat.le_of_ble_eq_true rfl)) d_Mo_belowOf_143 ⟨Nat.zero_le _, Nat.zero_le _⟩) hS (fun q _ h => hFc q h) hFc (fun rr u t H1 locs ht hvm hw hB hz1 hk1 hS => ?_)
            obtain ⟨e1, e2⟩ := Prod.mk.inj hw
            replace e1 := e1.symm
            replace e2 := e2.symm
            subst e1
            subst e2
            obtain ⟨hP1, -, hD1⟩ := hB
            rw [ht] at hP1
            obtain ⟨hP, hD⟩ := va_join (wr := [(h_m_rankOf, .inl (cB, m_rankOf_n, .inl m_rankOf))]) (w1 := [(h_m, .inr (6, [.ref h_m_one, .ref h_m_two, .ref h_m_three, .ref h_m_four, .ref h_m_five, .ref h_m_six, .ref h_m_seven, .ref h_m_eight, .ref h_m_work, .ref h_m_small, .int m_rows, .int m_columns, .int m_prime, .ref h_m_pivots, .ref h_m_freeRows, .ref h_m_freeColumns, .ref h_m_minor, .ref h_m_smallMinor, .ref h_m_fields, .ref h_m_rowCounts, .ref h_m_elements, .ref h_m_numbers, .ref h_m_known, .ref h_m_ranks, .ref h_m_rankOf, .ref h_m_signOf, .ref h_m_order, .ref h_m_sizes, .ref h_m_coefficients, .ref h_m_choices, .ref h_m_sorted])), (h_m_signOf, .inl (cB, m_signOf_n, .inl m_signOf)), (h_m_elements, .inl (cI, m_elements_n, .inl m_elements)), (h_m_sorted, .inl (cI, m_sorted_n, .inl u_18))]) hP hD [0, 1, 3, 4] [2] rfl rfl (by decide) (by decide) hk1 hFc hP1 hD1
            generalize H1 = H at hP hS ⊢
            have hP : va_P (dC, dI) cl_all [(h_m, .inr (6, [.ref h_m_one, .ref h_m_two, .ref h_m_three, .ref h_m_four, .ref h_m_five, .ref h_m_six, .ref h_m_seven, .ref h_m_eight, .ref h_m_work, .ref h_m_small, .int m_rows, .int m_columns, .int m_prime, .ref h_m_pivots, .ref h_m_freeRows, .ref h_m_freeColumns, .ref h_m_minor, .ref h_m_smallMinor, .ref h_m_fields, .ref h_m_rowCounts, .ref h_m_elements, .ref h_m_numbers, .ref h_m_known, .ref h_m_ranks, .ref h_m_rankOf, .ref h_m_signOf, .ref h_m_order, .ref h_m_sizes, .ref h_m_coefficients, .ref h_m_choices, .ref h_m_sorted])), (h_m_signOf, .inl (cB, m_signOf_n, .inl m_signOf)), (h_m_rankOf, .inl (cB, m_rankOf_n, .inl m_rankOf)), (h_m_elements, .inl (cI, m_elements_n, .inl m_elements)), (h_m_sorted, .inl (cI, m_sorted_n, .inl u_18))] H := hP.sub [1, 2, 0, 3, 4] rfl
            have hD : va_D A [(h_m, .inr (6, [.ref h_m_one, .ref h_m_two, .ref h_m_three, .ref h_m_four, .ref h_m_five, .ref h_m_six, .ref h_m_seven, .ref h_m_eight, .ref h_m_work, .ref h_m_small, .int m_rows, .int m_columns, .int m_prime, .ref h_m_pivots, .ref h_m_freeRows, .ref h_m_freeColumns, .ref h_m_minor, .ref h_m_smallMinor, .ref h_m_fields, .ref h_m_rowCounts, .ref h_m_elements, .ref h_m_numbers, .ref h_m_known, .ref h_m_ranks, .ref h_m_rankOf, .ref h_m_signOf, .ref h_m_order, .ref h_m_sizes, .ref h_m_coefficients, .ref h_m_choices, .ref h_m_sorted])), (h_m_signOf, .inl (cB, m_signOf_n, .inl m_signOf)), (h_m_rankOf, .inl (cB, m_rankOf_n, .inl m_rankOf)), (h_m_elements, .inl (cI, m_elements_n, .inl m_elements)), (h_m_sorted, .inl (cI, m_sorted_n, .inl u_18))] := hD.sub [1, 2, 0, 3, 4] (by decide) rfl
            refine lv_istore (lv' := [(10, .int r_17), (0, .ref h_m), (1, .int k0), (2, .int cir0), (4, .int v4_3), (6, .int v6_7), (7, .int v7_6), (8, .int v8_5), (9, .int v9_4)]) hx hb d_Mo_belowOf_146 hl (by decide) rfl (fun ls hl => ?_)
            refine lv_iload hx hb d_Mo_belowOf_148 (lv_at hl 7 rfl) ?_
            refine lv_iconst (v := 2) hx hb d_Mo_belowOf_150 (by decide) ?_
            refine lv_irem hx hb d_Mo_belowOf_151 (by decide) ?_
            refine ck_jn_W h (fun k' => ∀ (s0_20 : Int32), k' s0_20 = some r → ∀ (H : Heap) (locs : List Loc), va_P (dC, dI) cl_all [(h_m, .inr (6, [.ref h_m_one, .ref h_m_two, .ref h_m_three, .ref h_m_four, .ref h_m_five, .ref h_m_six, .ref h_m_seven, .ref h_m_eight, .ref h_m_work, .ref h_m_small, .int m_rows, .int m_columns, .int m_prime, .ref h_m_pivots, .ref h_m_freeRows, .ref h_m_freeColumns, .ref h_m_minor, .ref h_m_smallMinor, .ref h_m_fields, .ref h_m_rowCounts, .ref h_m_elements, .ref h_m_numbers, .ref h_m_known, .ref h_m_ranks, .ref h_m_rankOf, .ref h_m_signOf, .ref h_m_order, .ref h_m_sizes, .ref h_m_coefficients, .ref h_m_choices, .ref h_m_sorted])), (h_m_signOf, .inl (cB, m_signOf_n, .inl m_signOf)), (h_m_rankOf, .inl (cB, m_rankOf_n, .inl m_rankOf)), (h_m_elements, .inl (cI, m_elements_n, .inl m_elements)), (h_m_sorted, .inl (cI, m_sorted_n, .inl u_18))] H → va_D A [(h_m, .inr (6, [.ref h_m_one, .ref h_m_two, .ref h_m_three, .ref h_m_four, .ref h_m_five, .ref h_m_six, .ref h_m_seven, .ref h_m_eight, .ref h_m_work, .ref h_m_small, .int m_rows, .int m_columns, .int m_prime, .ref h_m_pivots, .ref h_m_freeRows, .ref h_m_freeColumns, .ref h_m_minor, .ref h_m_smallMinor, .ref h_m_fields, .ref h_m_rowCounts, .ref h_m_elements, .ref h_m_numbers, .ref h_m_known, .ref h_m_ranks, .ref h_m_rankOf, .ref h_m_signOf, .ref h_m_order, .ref h_m_sizes, .ref h_m_coefficients, .ref h_m_choices, .ref h_m_sorted])), (h_m_signOf, .inl (cB, m_signOf_n, .inl m_signOf)), (h_m_rankOf, .inl (cB, m_rankOf_n, .inl m_rankOf)), (h_m_elements, .inl (cI, m_elements_n, .inl m_elements)), (h_m_sorted, .inl (cI, m_sorted_n, .inl u_18))] → va_S A s.heap H locs → ∀ ls : Array Slot, lv_has ls 11 [(0, .ref h_m), (1, .int k0), (2, .int cir0), (4, .int v4_3), (6, .int v6_7), (7, .int v7_6), (8, .int v8_5), (9, .int v9_4)] → W p l e ({ frames := 2, cells := 0, slots := 0, locals := 50 } : Room) s m AR below meth c H locs 0 0 QQ (F0 m 163 ls [.int s0_20])) ?_ ?_
            · intro s0_20 h H locs hP hD hS ls hl
              refine lv_istore (lv' := [(10, .int s0_20), (0, .ref h_m), (1, .int k0), (2, .int cir0), (4, .int v4_3), (6, .int v6_7), (7, .int v7_6), (8, .int v8_5), (9, .int v9_4)]) hx hb d_Mo_belowOf_163 hl (by decide) rfl (fun ls hl => ?_)
              refine lv_iload hx hb d_Mo_belowOf_165 (lv_at hl 7 rfl) ?_
              refine ck_jn_W h (fun k' => ∀ (s0_21 : Int32), k' s0_21 = some r → ∀ (H : Heap) (locs : List Loc), va_P (dC, dI) cl_all [(h_m, .inr (6, [.ref h_m_one, .ref h_m_two, .ref h_m_three, .ref h_m_four, .ref h_m_five, .ref h_m_six, .ref h_m_seven, .ref h_m_eight, .ref h_m_work, .ref h_m_small, .int m_rows, .int m_columns, .int m_prime, .ref h_m_pivots, .ref h_m_freeRows, .ref h_m_freeColumns, .ref h_m_minor, .ref h_m_smallMinor, .ref h_m_fields, .ref h_m_rowCounts, .ref h_m_elements, .ref h_m_numbers, .ref h_m_known, .ref h_m_ranks, .ref h_m_rankOf, .ref h_m_signOf, .ref h_m_order, .ref h_m_sizes, .ref h_m_coefficients, .ref h_m_choices, .ref h_m_sorted])), (h_m_signOf, .inl (cB, m_signOf_n, .inl m_signOf)), (h_m_rankOf, .inl (cB, m_rankOf_n, .inl m_rankOf)), (h_m_elements, .inl (cI, m_elements_n, .inl m_elements)), (h_m_sorted, .inl (cI, m_sorted_n, .inl u_18))] H → va_D A [(h_m, .inr (6, [.ref h_m_one, .ref h_m_two, .ref h_m_three, .ref h_m_four, .ref h_m_five, .ref h_m_six, .ref h_m_seven, .ref h_m_eight, .ref h_m_work, .ref h_m_small, .int m_rows, .int m_columns, .int m_prime, .ref h_m_pivots, .ref h_m_freeRows, .ref h_m_freeColumns, .ref h_m_minor, .ref h_m_smallMinor, .ref h_m_fields, .ref h_m_rowCounts, .ref h_m_elements, .ref h_m_numbers, .ref h_m_known, .ref h_m_ranks, .ref h_m_rankOf, .ref h_m_signOf, .ref h_m_order, .ref h_m_sizes, .ref h_m_coefficients, .ref h_m_choices, .ref h_m_sorted])), (h_m_signOf, .inl (cB, m_signOf_n, .inl m_signOf)), (h_m_rankOf, .inl (cB, m_rankOf_n, .inl m_rankOf)), (h_m_elements, .inl (cI, m_elements_n, .inl m_elements)), (h_m_sorted, .inl (cI, m_sorted_n, .inl u_18))] → va_S A s.heap H locs → ∀ ls : Array Slot, lv_has ls 11 [(0, .ref h_m), (1, .int k0), (2, .int cir0), (4, .int v4_3), (6, .int v6_7), (8, .int v8_5), (9, .int v9_4), (10, .int s0_20)] → W p l e ({ frames := 2, cells := 0, slots := 0, locals := 50 } : Room) s m AR below meth c H locs 0 0 QQ (F0 m 177 ls [.int s0_21])) ?_ ?_
              · intro s0_21 h H locs hP hD hS ls hl
                refine lv_istore (lv' := [(7, .int s0_21), (0, .ref h_m), (1, .int k0), (2, .int cir0), (4, .int v4_3), (6, .int v6_7), (8, .int v8_5), (9, .int v9_4), (10, .int s0_20)]) hx hb d_Mo_belowOf_177 hl (by decide) rfl (fun ls hl => ?_)
                refine lv_iload hx hb d_Mo_belowOf_179 (lv_at hl 8 rfl) ?_
                refine lv_iload hx hb d_Mo_belowOf_181 (lv_at hl 0 rfl) ?_
                refine ck_jn_W h (fun k' => ∀ (s0_22 : Int32), k' s0_22 = some r → ∀ (H : Heap) (locs : List Loc), va_P (dC, dI) cl_all [(h_m, .inr (6, [.ref h_m_one, .ref h_m_two, .ref h_m_three, .ref h_m_four, .ref h_m_five, .ref h_m_six, .ref h_m_seven, .ref h_m_eight, .ref h_m_work, .ref h_m_small, .int m_rows, .int m_columns, .int m_prime, .ref h_m_pivots, .ref h_m_freeRows, .ref h_m_freeColumns, .ref h_m_minor, .ref h_m_smallMinor, .ref h_m_fields, .ref h_m_rowCounts, .ref h_m_elements, .ref h_m_numbers, .ref h_m_known, .ref h_m_ranks, .ref h_m_rankOf, .ref h_m_signOf, .ref h_m_order, .ref h_m_sizes, .ref h_m_coefficients, .ref h_m_choices, .ref h_m_sorted])), (h_m_signOf, .inl (cB, m_signOf_n, .inl m_signOf)), (h_m_rankOf, .inl (cB, m_rankOf_n, .inl m_rankOf)), (h_m_elements, .inl (cI, m_elements_n, .inl m_elements)), (h_m_sorted, .inl (cI, m_sorted_n, .inl u_18))] H → va_D A [(h_m, .inr (6, [.ref h_m_one, .ref h_m_two, .ref h_m_three, .ref h_m_four, .ref h_m_five, .ref h_m_six, .ref h_m_seven, .ref h_m_eight, .ref h_m_work, .ref h_m_small, .int m_rows, .int m_columns, .int m_prime, .ref h_m_pivots, .ref h_m_freeRows, .ref h_m_freeColumns, .ref h_m_minor, .ref h_m_smallMinor, .ref h_m_fields, .ref h_m_rowCounts, .ref h_m_elements, .ref h_m_numbers, .ref h_m_known, .ref h_m_ranks, .ref h_m_rankOf, .ref h_m_signOf, .ref h_m_order, .ref h_m_sizes, .ref h_m_coefficients, .ref h_m_choices, .ref h_m_sorted])), (h_m_signOf, .inl (cB, m_signOf_n, .inl m_signOf)), (h_m_rankOf, .inl (cB, m_rankOf_n, .inl m_rankOf)), (h_m_elements, .inl (cI, m_elements_n, .inl m_elements)), (h_m_sorted, .inl (cI, m_sorted_n, .inl u_18))] → va_S A s.heap H locs → ∀ ls : Array Slot, lv_has ls 11 [(0, .ref h_m), (1, .int k0), (2, .int cir0), (4, .int v4_3), (7, .int s0_21), (8, .int v8_5), (9, .int v9_4)] → W p l e ({ frames := 2, cells := 0, slots := 0, locals := 50 } : Room) s m AR below meth c H locs 0 0 QQ (F0 m 198 ls [.int s0_22])) ?_ ?_
                · intro s0_22 h H locs hP hD hS ls hl
                  refine lv_istore (lv' := [(6, .int s0_22), (0, .ref h_m), (1, .int k0), (2, .int cir0), (4, .int v4_3), (7, .int s0_21), (8, .int v8_5), (9, .int v9_4)]) hx hb d_Mo_belowOf_198 hl (by decide) rfl (fun ls hl => ?_)
                  obtain ⟨x_23, ex_23⟩ : ∃ y : Int32, y = v8_5 + 1 := ⟨_, rfl⟩
                  replace h := ck_nm_s h ex_23
                  refine lv_iinc (v := x_23) (lv' := [(8, .int x_23), (6, .int s0_22), (0, .ref h_m), (1, .int k0), (2, .int cir0), (4, .int v4_3), (7, .int s0_21), (9, .int v9_4)]) hx hb d_Mo_belowOf_200 hl (k := 6) rfl (by rw [ex_23]; rfl) (by decide) rfl (fun ls hl => ?_)
                  exact J_203 _ _ _ _ h _ _ hP hD hS _ (lv_sub hl [2, 3, 4, 5, 1, 6, 0, 7] rfl)
                · intro k_198 J_198 h
                  refine lv_icmp_ne (tgt := 191) hx hb d_Mo_belowOf_183 (by decide) (fun c_24 => ?_) (fun c_24 => ?_)
                  · replace h := ck_if_f h c_24
                    refine lv_iload hx hb d_Mo_belowOf_191 (lv_at hl 5 rfl) ?_
                    refine lv_iconst (v := 1) hx hb d_Mo_belowOf_193 (by decide) ?_
                    refine lv_iload hx hb d_Mo_belowOf_194 (lv_at hl 7 rfl) ?_
                    refine lv_ishl hx hb d_Mo_belowOf_196 ?_
                    refine lv_ior hx hb d_Mo_belowOf_197 ?_
                    exact J_198 _ h _ _ hP hD hS _ (lv_sub hl [1, 2, 3, 4, 0, 6, 7] rfl)
                  · replace h := ck_if_t h c_24
                    refine lv_iload hx hb d_Mo_belowOf_186 (lv_at hl 5 rfl) ?_
                    refine lv_goto (tgt := 198) hx hb d_Mo_belowOf_188 (by decide) ?_
                    exact J_198 _ h _ _ hP hD hS _ (lv_sub hl [1, 2, 3, 4, 0, 6, 7] rfl)
              · intro k_177 J_177 h
                refine lv_if_ne (tgt := 175) hx hb d_Mo_belowOf_167 (by decide) (fun c_25 => ?_) (fun c_25 => ?_)
                · replace h := ck_if_f h c_25
                  refine lv_iload hx hb d_Mo_belowOf_175 (lv_at hl 6 rfl) ?_
                  exact J_177 _ h _ _ hP hD hS _ (lv_sub hl [1, 2, 3, 4, 5, 7, 8, 0] rfl)
                · replace h := ck_if_t h c_25
                  refine lv_iload hx hb d_Mo_belowOf_170 (lv_at hl 0 rfl) ?_
                  refine lv_goto (tgt := 177) hx hb d_Mo_belowOf_172 (by decide) ?_
                  exact J_177 _ h _ _ hP hD hS _ (lv_sub hl [1, 2, 3, 4, 5, 7, 8, 0] rfl)
            · intro k_163 J_163 h
              refine lv_if_ne (tgt := 160) hx hb d_Mo_belowOf_152 (by decide) (fun c_26 => ?_) (fun c_26 => ?_)
              · replace h := ck_if_f h c_26
                refine lv_iload hx hb d_Mo_belowOf_160 (lv_at hl 0 rfl) ?_
                refine lv_ineg hx hb d_Mo_belowOf_162 ?_
                exact J_163 _ h _ _ hP hD hS _ (lv_sub hl [1, 2, 3, 4, 5, 6, 7, 8] rfl)
              · replace h := ck_if_t h c_26
                refine lv_iload hx hb d_Mo_belowOf_155 (lv_at hl 0 rfl) ?_
                refine lv_goto (tgt := 163) hx hb d_Mo_belowOf_157 (by decide) ?_
                exact J_163 _ h _ _ hP hD hS _ (lv_sub hl [1, 2, 3, 4, 5, 6, 7, 8] rfl)
          · replace h := ck_if_t h c_16
            refine lv_goto (tgt := 203) hx hb d_Mo_belowOf_130 (by decide) ?_
            exact J_203 _ _ _ _ h _ _ hP hD hS _ (lv_sub hl [0, 1, 2, 3, 4, 5, 6, 7] rfl)
    · intro k_98 J_98 h
      refine lo2_W (r := r) (fun (v6_27 : Int32) (v4_28 : Int32) => ∀ (H : Heap) (locs : List Loc), va_P (dC, dI) cl_all [(h_m, .inr (6, [.ref h_m_one, .ref h_m_two, .ref h_m_three, .ref h_m_four, .ref h_m_five, .ref h_m_six, .ref h_m_seven, .ref h_m_eight, .ref h_m_work, .ref h_m_small, .int m_rows, .int m_columns, .int m_prime, .ref h_m_pivots, .ref h_m_freeRows, .ref h_m_freeColumns, .ref h_m_minor, .ref h_m_smallMinor, .ref h_m_fields, .ref h_m_rowCounts, .ref h_m_elements, .ref h_m_numbers, .ref h_m_known, .ref h_m_ranks, .ref h_m_rankOf, .ref h_m_signOf, .ref h_m_order, .ref h_m_sizes, .ref h_m_coefficients, .ref h_m_choices, .ref h_m_sorted])), (h_m_signOf, .inl (cB, m_signOf_n, .inl m_signOf)), (h_m_rankOf, .inl (cB, m_rankOf_n, .inl m_rankOf)), (h_m_elements, .inl (cI, m_elements_n, .inl m_elements)), (h_m_sorted, .inl (cI, m_sorted_n, .inl m_sorted))] H → va_D A [(h_m, .inr (6, [.ref h_m_one, .ref h_m_two, .ref h_m_three, .ref h_m_four, .ref h_m_five, .ref h_m_six, .ref h_m_seven, .ref h_m_eight, .ref h_m_work, .ref h_m_small, .int m_rows, .int m_columns, .int m_prime, .ref h_m_pivots, .ref h_m_freeRows, .ref h_m_freeColumns, .ref h_m_minor, .ref h_m_smallMinor, .ref h_m_fields, .ref h_m_rowCounts, .ref h_m_elements, .ref h_m_numbers, .ref h_m_known, .ref h_m_ranks, .ref h_m_rankOf, .ref h_m_signOf, .ref h_m_order, .ref h_m_sizes, .ref h_m_coefficients, .ref h_m_choices, .ref h_m_sorted])), (h_m_signOf, .inl (cB, m_signOf_n, .inl m_signOf)), (h_m_rankOf, .inl (cB, m_rankOf_n, .inl m_rankOf)), (h_m_elements, .inl (cI, m_elements_n, .inl m_elements)), (h_m_sorted, .inl (cI, m_sorted_n, .inl m_sorted))] → va_S A s.heap H locs → ∀ ls : Array Slot, lv_has ls 11 [(0, .ref h_m), (1, .int k0), (2, .int cir0), (4, .int v4_28), (5, .int x_2), (6, .int v6_27)] → W p l e ({ frames := 2, cells := 0, slots := 0, locals := 50 } : Room) s m AR below meth c H locs 0 0 QQ (F0 m 29 ls [])) ?_ _ _ _ h _ _ hP hD hS _ (lv_sub hl [3, 4, 5, 2, 1, 0] rfl)
      intro k_29 v6_27 v4_28 J_29 h H locs hP hD hS ls hl
      refine lv_iload hx hb d_Mo_belowOf_29 (lv_at hl 5 rfl) ?_
      refine lv_aload_n hx hb d_Mo_belowOf_31 rfl (lv_at hl 0 rfl) ?_
      refine va_get (D := (dC, dI)) (ci := 6) (v := .ref h_m_elements) (C := "BasisWalkModel") (T := T_Mo) (N := 31) hx hb hts iw1 hown hK hP 0 rfl rfl 20 (by decide) fl0 (fun _ h9 => h9) rfl d_Mo_belowOf_32 ?_
      refine lv_iload_n hx hb d_Mo_belowOf_35 rfl (lv_at hl 1 rfl) ?_
      obtain ⟨g_29, h⟩ := ck_in_s h
      refine va_iald hx hb hK hP 3 0 rfl rfl g_29 d_Mo_belowOf_36 ?_
      refine lv_icmp_ge (tgt := 98) hx hb d_Mo_belowOf_37 (by decide) (fun c_30 => ?_) (fun c_30 => ?_)
      · replace h := ck_if_t h c_30
        exact J_98 _ h _ _ hP hD hS _ (lv_sub hl [0, 1, 2, 3] rfl)
      · replace h := ck_if_f h c_30
        refine lv_iload hx hb d_Mo_belowOf_40 (lv_at hl 4 rfl) ?_
        refine lv_iload hx hb d_Mo_belowOf_42 (lv_at hl 3 rfl) ?_
        refine lv_ior hx hb d_Mo_belowOf_44 ?_
        refine lv_topi (fun x_31 ex_31 => ?_)
        replace h := ck_nm_s h ex_31
        refine lv_istore (lv' := [(7, .int x_31), (0, .ref h_m), (1, .int k0), (2, .int cir0), (4, .int v4_28), (5, .int x_2), (6, .int v6_27)]) hx hb d_Mo_belowOf_45 hl (by decide) rfl (fun ls hl => ?_)
        refine lv_iload_n hx hb d_Mo_belowOf_47 rfl (lv_at hl 3 rfl) ?_
        refine lv_iload hx hb d_Mo_belowOf_48 (lv_at hl 6 rfl) ?_
        refine lv_ishr hx hb d_Mo_belowOf_50 ?_
        refine lv_iconst (v := 1) hx hb d_Mo_belowOf_51 (by decide) ?_
        refine lv_iand hx hb d_Mo_belowOf_52 ?_
        refine ck_jn_W h (fun k' => ∀ (s0_32 : Int32), k' s0_32 = some r → ∀ (H : Heap) (locs : List Loc), va_P (dC, dI) cl_all [(h_m, .inr (6, [.ref h_m_one, .ref h_m_two, .ref h_m_three, .ref h_m_four, .ref h_m_five, .ref h_m_six, .ref h_m_seven, .ref h_m_eight, .ref h_m_work, .ref h_m_small, .int m_rows, .int m_columns, .int m_prime, .ref h_m_pivots, .ref h_m_freeRows, .ref h_m_freeColumns, .ref h_m_minor, .ref h_m_smallMinor, .ref h_m_fields, .ref h_m_rowCounts, .ref h_m_elements, .ref h_m_numbers, .ref h_m_known, .ref h_m_ranks, .ref h_m_rankOf, .ref h_m_signOf, .ref h_m_order, .ref h_m_sizes, .ref h_m_coefficients, .ref h_m_choices, .ref h_m_sorted])), (h_m_signOf, .inl (cB, m_signOf_n, .inl m_signOf)), (h_m_rankOf, .inl (cB, m_rankOf_n, .inl m_rankOf)), (h_m_elements, .inl (cI, m_elements_n, .inl m_elements)), (h_m_sorted, .inl (cI, m_sorted_n, .inl m_sorted))] H → va_D A [(h_m, .inr (6, [.ref h_m_one, .ref h_m_two, .ref h_m_three, .ref h_m_four, .ref h_m_five, .ref h_m_six, .ref h_m_seven, .ref h_m_eight, .ref h_m_work, .ref h_m_small, .int m_rows, .int m_columns, .int m_prime, .ref h_m_pivots, .ref h_m_freeRows, .ref h_m_freeColumns, .ref h_m_minor, .ref h_m_smallMinor, .ref h_m_fields, .ref h_m_rowCounts, .ref h_m_elements, .ref h_m_numbers, .ref h_m_known, .ref h_m_ranks, .ref h_m_rankOf, .ref h_m_signOf, .ref h_m_order, .ref h_m_sizes, .ref h_m_coefficients, .ref h_m_choices, .ref h_m_sorted])), (h_m_signOf, .inl (cB, m_signOf_n, .inl m_signOf)), (h_m_rankOf, .inl (cB, m_rankOf_n, .inl m_rankOf)), (h_m_elements, .inl (cI, m_elements_n, .inl m_elements)), (h_m_sorted, .inl (cI, m_sorted_n, .inl m_sorted))] → va_S A s.heap H locs → ∀ ls : Array Slot, lv_has ls 11 [(0, .ref h_m), (1, .int k0), (2, .int cir0), (5, .int x_2), (6, .int v6_27)] → W p l e ({ frames := 2, cells := 0, slots := 0, locals := 50 } : Room) s m AR below meth c H locs 0 0 QQ (F0 m 90 ls [.int s0_32])) ?_ ?_
        · intro s0_32 h H locs hP hD hS ls hl
          refine lv_istore (lv' := [(4, .int s0_32), (0, .ref h_m), (1, .int k0), (2, .int cir0), (5, .int x_2), (6, .int v6_27)]) hx hb d_Mo_belowOf_90 hl (by decide) rfl (fun ls hl => ?_)
          obtain ⟨x_33, ex_33⟩ : ∃ y : Int32, y = v6_27 + 1 := ⟨_, rfl⟩
          replace h := ck_nm_s h ex_33
          refine lv_iinc (v := x_33) (lv' := [(6, .int x_33), (4, .int s0_32), (0, .ref h_m), (1, .int k0), (2, .int cir0), (5, .int x_2)]) hx hb d_Mo_belowOf_92 hl (k := 5) rfl (by rw [ex_33]; rfl) (by decide) rfl (fun ls hl => ?_)
          refine lv_goto (tgt := 29) hx hb d_Mo_belowOf_95 (by decide) ?_
          exact J_29 _ _ h _ _ hP hD hS _ (lv_sub hl [2, 3, 4, 1, 5, 0] rfl)
        · intro k_90 J_90 h
          refine ck_jn_W h (fun k' => ∀ u : Unit, k' u = some r → ∀ (H : Heap) (locs : List Loc), va_P (dC, dI) cl_all [(h_m, .inr (6, [.ref h_m_one, .ref h_m_two, .ref h_m_three, .ref h_m_four, .ref h_m_five, .ref h_m_six, .ref h_m_seven, .ref h_m_eight, .ref h_m_work, .ref h_m_small, .int m_rows, .int m_columns, .int m_prime, .ref h_m_pivots, .ref h_m_freeRows, .ref h_m_freeColumns, .ref h_m_minor, .ref h_m_smallMinor, .ref h_m_fields, .ref h_m_rowCounts, .ref h_m_elements, .ref h_m_numbers, .ref h_m_known, .ref h_m_ranks, .ref h_m_rankOf, .ref h_m_signOf, .ref h_m_order, .ref h_m_sizes, .ref h_m_coefficients, .ref h_m_choices, .ref h_m_sorted])), (h_m_signOf, .inl (cB, m_signOf_n, .inl m_signOf)), (h_m_rankOf, .inl (cB, m_rankOf_n, .inl m_rankOf)), (h_m_elements, .inl (cI, m_elements_n, .inl m_elements)), (h_m_sorted, .inl (cI, m_sorted_n, .inl m_sorted))] H → va_D A [(h_m, .inr (6, [.ref h_m_one, .ref h_m_two, .ref h_m_three, .ref h_m_four, .ref h_m_five, .ref h_m_six, .ref h_m_seven, .ref h_m_eight, .ref h_m_work, .ref h_m_small, .int m_rows, .int m_columns, .int m_prime, .ref h_m_pivots, .ref h_m_freeRows, .ref h_m_freeColumns, .ref h_m_minor, .ref h_m_smallMinor, .ref h_m_fields, .ref h_m_rowCounts, .ref h_m_elements, .ref h_m_numbers, .ref h_m_known, .ref h_m_ranks, .ref h_m_rankOf, .ref h_m_signOf, .ref h_m_order, .ref h_m_sizes, .ref h_m_coefficients, .ref h_m_choices, .ref h_m_sorted])), (h_m_signOf, .inl (cB, m_signOf_n, .inl m_signOf)), (h_m_rankOf, .inl (cB, m_rankOf_n, .inl m_rankOf)), (h_m_elements, .inl (cI, m_elements_n, .inl m_elements)), (h_m_sorted, .inl (cI, m_sorted_n, .inl m_sorted))] → va_S A s.heap H locs → ∀ ls : Array Slot, lv_has ls 11 [(0, .ref h_m), (1, .int k0), (2, .int cir0), (4, .int v4_28), (5, .int x_2), (6, .int v6_27)] → W p l e ({ frames := 2, cells := 0, slots := 0, locals := 50 } : Room) s m AR below meth c H locs 0 0 QQ (F0 m 88 ls [])) ?_ ?_
          · intro _ h H locs hP hD hS ls hl
            refine lv_iload hx hb d_Mo_belowOf_88 (lv_at hl 3 rfl) ?_
            exact J_90 _ h _ _ hP hD hS _ (lv_sub hl [0, 1, 2, 4, 5] rfl)
          · intro k_88 J_88 h
            refine lv_if_ne (tgt := 88) hx hb d_Mo_belowOf_53 (by decide) (fun c_34 => ?_) (fun c_34 => ?_)
            · replace h := ck_if_f h c_34
              exact J_88 _ h _ _ hP hD hS _ (lv_sub hl [1, 2, 3, 4, 5, 6] rfl)
            · replace h := ck_if_t h c_34
              refine lv_aload_n hx hb d_Mo_belowOf_56 rfl (lv_at hl 1 rfl) ?_
              refine lv_iload_n hx hb d_Mo_belowOf_57 rfl (lv_at hl 2 rfl) ?_
              refine lv_iload hx hb d_Mo_belowOf_58 (lv_at hl 0 rfl) ?_
              refine lv_iconst (v := 1) hx hb d_Mo_belowOf_60 (by decide) ?_
              refine lv_iload hx hb d_Mo_belowOf_61 (lv_at hl 6 rfl) ?_
              refine lv_ishl hx hb d_Mo_belowOf_63 ?_
              refine lv_ior hx hb d_Mo_belowOf_64 ?_
              obtain ⟨r_35, hc_36, h⟩ := ck_b1_s h
              have hPc := hP.sub (ws' := [(h_m, .inr (6, [.ref h_m_one, .ref h_m_two, .ref h_m_three, .ref h_m_four, .ref h_m_five, .ref h_m_six, .ref h_m_seven, .ref h_m_eight, .ref h_m_work, .ref h_m_small, .int m_rows, .int m_columns, .int m_prime, .ref h_m_pivots, .ref h_m_freeRows, .ref h_m_freeColumns, .ref h_m_minor, .ref h_m_smallMinor, .ref h_m_fields, .ref h_m_rowCounts, .ref h_m_elements, .ref h_m_numbers, .ref h_m_known, .ref h_m_ranks, .ref h_m_rankOf, .ref h_m_signOf, .ref h_m_order, .ref h_m_sizes, .ref h_m_coefficients, .ref h_m_choices, .ref h_m_sorted])), (h_m_rankOf, .inl (cB, m_rankOf_n, .inl m_rankOf))]) [0, 2] rfl
              have hDc := hD.sub (ws' := [(h_m, .inr (6, [.ref h_m_one, .ref h_m_two, .ref h_m_three, .ref h_m_four, .ref h_m_five, .ref h_m_six, .ref h_m_seven, .ref h_m_eight, .ref h_m_work, .ref h_m_small, .int m_rows, .int m_columns, .int m_prime, .ref h_m_pivots, .ref h_m_freeRows, .ref h_m_freeColumns, .ref h_m_minor, .ref h_m_smallMinor, .ref h_m_fields, .ref h_m_rowCounts, .ref h_m_elements, .ref h_m_numbers, .ref h_m_known, .ref h_m_ranks, .ref h_m_rankOf, .ref h_m_signOf, .ref h_m_order, .ref h_m_sizes, .ref h_m_coefficients, .ref h_m_choices, .ref h_m_sorted])), (h_m_rankOf, .inl (cB, m_rankOf_n, .inl m_rankOf))]) [0, 2] (by decide) rfl
              have hFc := va_free (wc := [(h_m, .inr (6, [.ref h_m_one, .ref h_m_two, .ref h_m_three, .ref h_m_four, .ref h_m_five, .ref h_m_six, .ref h_m_seven, .ref h_m_eight, .ref h_m_work, .ref h_m_small, .int m_rows, .int m_columns, .int m_prime, .ref h_m_pivots, .ref h_m_freeRows, .ref h_m_freeColumns, .ref h_m_minor, .ref h_m_smallMinor, .ref h_m_fields, .ref h_m_rowCounts, .ref h_m_elements, .ref h_m_numbers, .ref h_m_known, .ref h_m_ranks, .ref h_m_rankOf, .ref h_m_signOf, .ref h_m_order, .ref h_m_sizes, .ref h_m_coefficients, .ref h_m_choices, .ref h_m_sorted])), (h_m_rankOf, .inl (cB, m_rankOf_n, .inl m_rankOf))]) hD hS hA [0, 2] rfl
              refine va_calli (va_runV (As := [.int k0, .int (x_31 ||| ((1 : Int32) <<< (v6_27 &&& 31)))]) (rest := []) ⟨hx, hb, hml, hown, hts⟩ (c_R_r l dC dI cI cJ cB cZ cT cN H.size h_m h_m_one h_m_two h_m_three h_m_four h_m_five h_m_six h_m_seven h_m_eight h_m_work h_m_small h_m_pivots h_m_freeRows h_m_freeColumns h_m_minor h_m_smallMinor h_m_fields h_m_rowCounts h_m_elements h_m_numbers h_m_known h_m_ranks h_m_rankOf h_m_signOf h_m_order h_m_sizes h_m_coefficients h_m_choices h_m_sorted m_rows m_columns m_prime m_rankOf_n m_rankOf k0 (x_31 ||| ((1 : Int32) <<< (v6_27 &&& 31))) _ hc_36) (cwV 2 hts (tb_V tw_602 tw_604 tp_35 tw_6 tw_605) rfl rfl rfl (by decide +kernel) ⟨Nat.le_of_ble_eq_true rfl, Nat.le_of_ble_eq_true rfl⟩) ⟨fun a U g mk q => by obtain ⟨q0, q1, qP, qK, qN, qD⟩ := q; exact ⟨q0, q1, qP, va_K.moved (u := U) (U := U.calling g mk a) (Vm.Alike.refl U.vm) qK, qN.same rfl, qD⟩, va_recv hK hPc (ci := 6) (q0 := 0) rfl rfl, fun U hU hW => ⟨rfl, by rw [hU], by rw [hU]; exact hPc, va_K.moved hW.alike hK, hN.warm hW, hDc.weaken (fun _ _ _ _ => trivial)⟩⟩ rfl rfl hl.1 rfl (lv_room (Nat.le_of_ble_eq_true rfl)) d_Mo_belowOf_65 ⟨Nat.zero_le _, Nat.zero_le _⟩) hS (fun q _ h => hFc q h) hFc (fun rr u t H1 locs ht hvm hw hB hz1 hk1 hS => ?_)
              replace hw := hw.symm
              subst hw
              obtain ⟨hP1, -, hD1⟩ := hB
              rw [ht] at hP1
              obtain ⟨hP, hD⟩ := va_join (wr := [(h_m_signOf, .inl (cB, m_signOf_n, .inl m_signOf)), (h_m_elements, .inl (cI, m_elements_n, .inl m_elements)), (h_m_sorted, .inl (cI, m_sorted_n, .inl m_sorted))]) (w1 := [(h_m, .inr (6, [.ref h_m_one, .ref h_m_two, .ref h_m_three, .ref h_m_four, .ref h_m_five, .ref h_m_six, .ref h_m_seven, .ref h_m_eight, .ref h_m_work, .ref h_m_small, .int m_rows, .int m_columns, .int m_prime, .ref h_m_pivots, .ref h_m_freeRows, .ref h_m_freeColumns, .ref h_m_minor, .ref h_m_smallMinor, .ref h_m_fields, .ref h_m_rowCounts, .ref h_m_elements, .ref h_m_numbers, .ref h_m_known, .ref h_m_ranks, .ref h_m_rankOf, .ref h_m_signOf, .ref h_m_order, .ref h_m_sizes, .ref h_m_coefficients, .ref h_m_choices, .ref h_m_sorted])), (h_m_rankOf, .inl (cB, m_rankOf_n, .inl m_rankOf))]) hP hD [0, 2] [1, 3, 4] rfl rfl (by decide) (by decide) hk1 hFc hP1 hD1
              generalize H1 = H at hP hS ⊢
              have hP : va_P (dC, dI) cl_all [(h_m, .inr (6, [.ref h_m_one, .ref h_m_two, .ref h_m_three, .ref h_m_four, .ref h_m_five, .ref h_m_six, .ref h_m_seven, .ref h_m_eight, .ref h_m_work, .ref h_m_small, .int m_rows, .int m_columns, .int m_prime, .ref h_m_pivots, .ref h_m_freeRows, .ref h_m_freeColumns, .ref h_m_minor, .ref h_m_smallMinor, .ref h_m_fields, .ref h_m_rowCounts, .ref h_m_elements, .ref h_m_numbers, .ref h_m_known, .ref h_m_ranks, .ref h_m_rankOf, .ref h_m_signOf, .ref h_m_order, .ref h_m_sizes, .ref h_m_coefficients, .ref h_m_choices, .ref h_m_sorted])), (h_m_signOf, .inl (cB, m_signOf_n, .inl m_signOf)), (h_m_rankOf, .inl (cB, m_rankOf_n, .inl m_rankOf)), (h_m_elements, .inl (cI, m_elements_n, .inl m_elements)), (h_m_sorted, .inl (cI, m_sorted_n, .inl m_sorted))] H := hP.sub [3, 0, 4, 1, 2] rfl
              have hD : va_D A [(h_m, .inr (6, [.ref h_m_one, .ref h_m_two, .ref h_m_three, .ref h_m_four, .ref h_m_five, .ref h_m_six, .ref h_m_seven, .ref h_m_eight, .ref h_m_work, .ref h_m_small, .int m_rows, .int m_columns, .int m_prime, .ref h_m_pivots, .ref h_m_freeRows, .ref h_m_freeColumns, .ref h_m_minor, .ref h_m_smallMinor, .ref h_m_fields, .ref h_m_rowCounts, .ref h_m_elements, .ref h_m_numbers, .ref h_m_known, .ref h_m_ranks, .ref h_m_rankOf, .ref h_m_signOf, .ref h_m_order, .ref h_m_sizes, .ref h_m_coefficients, .ref h_m_choices, .ref h_m_sorted])), (h_m_signOf, .inl (cB, m_signOf_n, .inl m_signOf)), (h_m_rankOf, .inl (cB, m_rankOf_n, .inl m_rankOf)), (h_m_elements, .inl (cI, m_elements_n, .inl m_elements)), (h_m_sorted, .inl (cI, m_sorted_n, .inl m_sorted))] := hD.sub [3, 0, 4, 1, 2] (by decide) rfl
              refine lv_aload_n hx hb d_Mo_belowOf_68 rfl (lv_at hl 1 rfl) ?_
              refine lv_iload_n hx hb d_Mo_belowOf_69 rfl (lv_at hl 2 rfl) ?_
              refine lv_iload hx hb d_Mo_belowOf_70 (lv_at hl 0 rfl) ?_
              obtain ⟨r_37, hc_38, h⟩ := ck_b1_s h
              have hPc := hP.sub (ws' := [(h_m, .inr (6, [.ref h_m_one, .ref h_m_two, .ref h_m_three, .ref h_m_four, .ref h_m_five, .ref h_m_six, .ref h_m_seven, .ref h_m_eight, .ref h_m_work, .ref h_m_small, .int m_rows, .int m_columns, .int m_prime, .ref h_m_pivots, .ref h_m_freeRows, .ref h_m_freeColumns, .ref h_m_minor, .ref h_m_smallMinor, .ref h_m_fields, .ref h_m_rowCounts, .ref h_m_elements, .ref h_m_numbers, .ref h_m_known, .ref h_m_ranks, .ref h_m_rankOf, .ref h_m_signOf, .ref h_m_order, .ref h_m_sizes, .ref h_m_coefficients, .ref h_m_choices, .ref h_m_sorted])), (h_m_rankOf, .inl (cB, m_rankOf_n, .inl m_rankOf))]) [0, 2] rfl
              have hDc := hD.sub (ws' := [(h_m, .inr (6, [.ref h_m_one, .ref h_m_two, .ref h_m_three, .ref h_m_four, .ref h_m_five, .ref h_m_six, .ref h_m_seven, .ref h_m_eight, .ref h_m_work, .ref h_m_small, .int m_rows, .int m_columns, .int m_prime, .ref h_m_pivots, .ref h_m_freeRows, .ref h_m_freeColumns, .ref h_m_minor, .ref h_m_smallMinor, .ref h_m_fields, .ref h_m_rowCounts, .ref h_m_elements, .ref h_m_numbers, .ref h_m_known, .ref h_m_ranks, .ref h_m_rankOf, .ref h_m_signOf, .ref h_m_order, .ref h_m_sizes, .ref h_m_coefficients, .ref h_m_choices, .ref h_m_sorted])), (h_m_rankOf, .inl (cB, m_rankOf_n, .inl m_rankOf))]) [0, 2] (by decide) rfl
              have hFc := va_free (wc := [(h_m, .inr (6, [.ref h_m_one, .ref h_m_two, .ref h_m_three, .ref h_m_four, .ref h_m_five, .ref h_m_six, .ref h_m_seven, .ref h_m_eight, .ref h_m_work, .ref h_m_small, .int m_rows, .int m_columns, .int m_prime, .ref h_m_pivots, .ref h_m_freeRows, .ref h_m_freeColumns, .ref h_m_minor, .ref h_m_smallMinor, .ref h_m_fields, .ref h_m_rowCounts, .ref h_m_elements, .ref h_m_numbers, .ref h_m_known, .ref h_m_ranks, .ref h_m_rankOf, .ref h_m_signOf, .ref h_m_order, .ref h_m_sizes, .ref h_m_coefficients, .ref h_m_choices, .ref h_m_sorted])), (h_m_rankOf, .inl (cB, m_rankOf_n, .inl m_rankOf))]) hD hS hA [0, 2] rfl
              refine va_calli (va_runV (As := [.int k0, .int x_31]) (rest := [.int r_35]) ⟨hx, hb, hml, hown, hts⟩ (c_R_r l dC dI cI cJ cB cZ cT cN H.size h_m h_m_one h_m_two h_m_three h_m_four h_m_five h_m_six h_m_seven h_m_eight h_m_work h_m_small h_m_pivots h_m_freeRows h_m_freeColumns h_m_minor h_m_smallMinor h_m_fields h_m_rowCounts h_m_elements h_m_numbers h_m_known h_m_ranks h_m_rankOf h_m_signOf h_m_order h_m_sizes h_m_coefficients h_m_choices h_m_sorted m_rows m_columns m_prime m_rankOf_n m_rankOf k0 x_31 _ hc_38) (cwV 2 hts (tb_V tw_602 tw_604 tp_35 tw_6 tw_605) rfl rfl rfl (by decide +kernel) ⟨Nat.le_of_ble_eq_true rfl, Nat.le_of_ble_eq_true rfl⟩) ⟨fun a U g mk q => by obtain ⟨q0, q1, qP, qK, qN, qD⟩ := q; exact ⟨q0, q1, qP, va_K.moved (u := U) (U := U.calling g mk a) (Vm.Alike.refl U.vm) qK, qN.same rfl, qD⟩, va_recv hK hPc (ci := 6) (q0 := 0) rfl rfl, fun U hU hW => ⟨rfl, by rw [hU], by rw [hU]; exact hPc, va_K.moved hW.alike hK, hN.warm hW, hDc.weaken (fun _ _ _ _ => trivial)⟩⟩ rfl rfl hl.1 rfl (lv_room (Nat.le_of_ble_eq_true rfl)) d_Mo_belowOf_72 ⟨Nat.zero_le _, Nat.zero_le _⟩) hS (fun q _ h => hFc q h) hFc (fun rr u t H1 locs ht hvm hw hB hz1 hk1 hS => ?_)
              replace hw := hw.symm
              subst hw
              obtain ⟨hP1, -, hD1⟩ := hB
              rw [ht] at hP1
              obtain ⟨hP, hD⟩ := va_join (wr := [(h_m_signOf, .inl (cB, m_signOf_n, .inl m_signOf)), (h_m_elements, .inl (cI, m_elements_n, .inl m_elements)), (h_m_sorted, .inl (cI, m_sorted_n, .inl m_sorted))]) (w1 := [(h_m, .inr (6, [.ref h_m_one, .ref h_m_two, .ref h_m_three, .ref h_m_four, .ref h_m_five, .ref h_m_six, .ref h_m_seven, .ref h_m_eight, .ref h_m_work, .ref h_m_small, .int m_rows, .int m_columns, .int m_prime, .ref h_m_pivots, .ref h_m_freeRows, .ref h_m_freeColumns, .ref h_m_minor, .ref h_m_smallMinor, .ref h_m_fields, .ref h_m_rowCounts, .ref h_m_elements, .ref h_m_numbers, .ref h_m_known, .ref h_m_ranks, .ref h_m_rankOf, .ref h_m_signOf, .ref h_m_order, .ref h_m_sizes, .ref h_m_coefficients, .ref h_m_choices, .ref h_m_sorted])), (h_m_rankOf, .inl (cB, m_rankOf_n, .inl m_rankOf))]) hP hD [0, 2] [1, 3, 4] rfl rfl (by decide) (by decide) hk1 hFc hP1 hD1
              generalize H1 = H at hP hS ⊢
              have hP : va_P (dC, dI) cl_all [(h_m, .inr (6, [.ref h_m_one, .ref h_m_two, .ref h_m_three, .ref h_m_four, .ref h_m_five, .ref h_m_six, .ref h_m_seven, .ref h_m_eight, .ref h_m_work, .ref h_m_small, .int m_rows, .int m_columns, .int m_prime, .ref h_m_pivots, .ref h_m_freeRows, .ref h_m_freeColumns, .ref h_m_minor, .ref h_m_smallMinor, .ref h_m_fields, .ref h_m_rowCounts, .ref h_m_elements, .ref h_m_numbers, .ref h_m_known, .ref h_m_ranks, .ref h_m_rankOf, .ref h_m_signOf, .ref h_m_order, .ref h_m_sizes, .ref h_m_coefficients, .ref h_m_choices, .ref h_m_sorted])), (h_m_signOf, .inl (cB, m_signOf_n, .inl m_signOf)), (h_m_rankOf, .inl (cB, m_rankOf_n, .inl m_rankOf)), (h_m_elements, .inl (cI, m_elements_n, .inl m_elements)), (h_m_sorted, .inl (cI, m_sorted_n, .inl m_sorted))] H := hP.sub [3, 0, 4, 1, 2] rfl
              have hD : va_D A [(h_m, .inr (6, [.ref h_m_one, .ref h_m_two, .ref h_m_three, .ref h_m_four, .ref h_m_five, .ref h_m_six, .ref h_m_seven, .ref h_m_eight, .ref h_m_work, .ref h_m_small, .int m_rows, .int m_columns, .int m_prime, .ref h_m_pivots, .ref h_m_freeRows, .ref h_m_freeColumns, .ref h_m_minor, .ref h_m_smallMinor, .ref h_m_fields, .ref h_m_rowCounts, .ref h_m_elements, .ref h_m_numbers, .ref h_m_known, .ref h_m_ranks, .ref h_m_rankOf, .ref h_m_signOf, .ref h_m_order, .ref h_m_sizes, .ref h_m_coefficients, .ref h_m_choices, .ref h_m_sorted])), (h_m_signOf, .inl (cB, m_signOf_n, .inl m_signOf)), (h_m_rankOf, .inl (cB, m_rankOf_n, .inl m_rankOf)), (h_m_elements, .inl (cI, m_elements_n, .inl m_elements)), (h_m_sorted, .inl (cI, m_sorted_n, .inl m_sorted))] := hD.sub [3, 0, 4, 1, 2] (by decide) rfl
              refine lv_icmp_le (tgt := 88) hx hb d_Mo_belowOf_75 (by decide) (fun c_39 => ?_) (fun c_39 => ?_)
              · replace h := ck_if_t h c_39
                exact J_88 _ h _ _ hP hD hS _ (lv_sub hl [1, 2, 3, 4, 5, 6] rfl)
              · replace h := ck_if_f h c_39
                refine lv_iload hx hb d_Mo_belowOf_78 (lv_at hl 4 rfl) ?_
                refine lv_iconst (v := 1) hx hb d_Mo_belowOf_80 (by decide) ?_
                refine lv_iload hx hb d_Mo_belowOf_81 (lv_at hl 6 rfl) ?_
                refine lv_ishl hx hb d_Mo_belowOf_83 ?_
                refine lv_ior hx hb d_Mo_belowOf_84 ?_
                refine lv_goto (tgt := 90) hx hb d_Mo_belowOf_85 (by decide) ?_
                exact J_90 _ h _ _ hP hD hS _ (lv_sub hl [1, 2, 3, 5, 6] rfl)
  · intro k_16 J_16 h
    refine lo1_W (r := r) (fun (v3_40 : Int32) => ∀ (H : Heap) (locs : List Loc), va_P (dC, dI) cl_all [(h_m, .inr (6, [.ref h_m_one, .ref h_m_two, .ref h_m_three, .ref h_m_four, .ref h_m_five, .ref h_m_six, .ref h_m_seven, .ref h_m_eight, .ref h_m_work, .ref h_m_small, .int m_rows, .int m_columns, .int m_prime, .ref h_m_pivots, .ref h_m_freeRows, .ref h_m_freeColumns, .ref h_m_minor, .ref h_m_smallMinor, .ref h_m_fields, .ref h_m_rowCounts, .ref h_m_elements, .ref h_m_numbers, .ref h_m_known, .ref h_m_ranks, .ref h_m_rankOf, .ref h_m_signOf, .ref h_m_order, .ref h_m_sizes, .ref h_m_coefficients, .ref h_m_choices, .ref h_m_sorted])), (h_m_signOf, .inl (cB, m_signOf_n, .inl m_signOf)), (h_m_rankOf, .inl (cB, m_rankOf_n, .inl m_rankOf)), (h_m_elements, .inl (cI, m_elements_n, .inl m_elements)), (h_m_sorted, .inl (cI, m_sorted_n, .inl m_sorted))] H → va_D A [(h_m, .inr (6, [.ref h_m_one, .ref h_m_two, .ref h_m_three, .ref h_m_four, .ref h_m_five, .ref h_m_six, .ref h_m_seven, .ref h_m_eight, .ref h_m_work, .ref h_m_small, .int m_rows, .int m_columns, .int m_prime, .ref h_m_pivots, .ref h_m_freeRows, .ref h_m_freeColumns, .ref h_m_minor, .ref h_m_smallMinor, .ref h_m_fields, .ref h_m_rowCounts, .ref h_m_elements, .ref h_m_numbers, .ref h_m_known, .ref h_m_ranks, .ref h_m_rankOf, .ref h_m_signOf, .ref h_m_order, .ref h_m_sizes, .ref h_m_coefficients, .ref h_m_choices, .ref h_m_sorted])), (h_m_signOf, .inl (cB, m_signOf_n, .inl m_signOf)), (h_m_rankOf, .inl (cB, m_rankOf_n, .inl m_rankOf)), (h_m_elements, .inl (cI, m_elements_n, .inl m_elements)), (h_m_sorted, .inl (cI, m_sorted_n, .inl m_sorted))] → va_S A s.heap H locs → ∀ ls : Array Slot, lv_has ls 11 [(0, .ref h_m), (1, .int k0), (2, .int cir0), (3, .int v3_40)] → W p l e ({ frames := 2, cells := 0, slots := 0, locals := 50 } : Room) s m AR below meth c H locs 0 0 QQ (F0 m 2 ls [])) ?_ _ _ h _ _ hP hD hS _ (lv_sub hl [1, 2, 3, 0] rfl)
    intro k_2 v3_40 J_2 h H locs hP hD hS ls hl
    refine lv_iload_n hx hb d_Mo_belowOf_2 rfl (lv_at hl 2 rfl) ?_
    refine lv_iload_n hx hb d_Mo_belowOf_3 rfl (lv_at hl 3 rfl) ?_
    refine lv_ishr hx hb d_Mo_belowOf_4 ?_
    refine lv_iconst (v := 1) hx hb d_Mo_belowOf_5 (by decide) ?_
    refine lv_iand hx hb d_Mo_belowOf_6 ?_
    refine lv_if_ne (tgt := 16) hx hb d_Mo_belowOf_7 (by decide) (fun c_41 => ?_) (fun c_41 => ?_)
    · replace h := ck_if_f h c_41
      exact J_16 _ h _ _ hP hD hS _ (lv_sub hl [0, 1, 2, 3] rfl)
    · replace h := ck_if_t h c_41
      obtain ⟨x_42, ex_42⟩ : ∃ y : Int32, y = v3_40 + 1 := ⟨_, rfl⟩
      replace h := ck_nm_s h ex_42
      refine lv_iinc (v := x_42) (lv' := [(3, .int x_42), (0, .ref h_m), (1, .int k0), (2, .int cir0)]) hx hb d_Mo_belowOf_10 hl (k := 3) rfl (by rw [ex_42]; rfl) (by decide) rfl (fun ls hl => ?_)
      refine lv_goto (tgt := 2) hx hb d_Mo_belowOf_13 (by decide) ?_
      exact J_2 _ h _ _ hP hD hS _ (lv_sub hl [1, 2, 3, 0] rfl)
