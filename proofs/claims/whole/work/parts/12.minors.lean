theorem d_Mi_expand_0 : decode prog_2_method_5_code 0 = .ok (.lconst 0, 1) := by decide +kernel
theorem d_Mi_expand_1 : decode prog_2_method_5_code 1 = .ok (.lstore 4, 2) := by decide +kernel
theorem d_Mi_expand_3 : decode prog_2_method_5_code 3 = .ok (.lconst 0, 1) := by decide +kernel
theorem d_Mi_expand_4 : decode prog_2_method_5_code 4 = .ok (.lstore 6, 2) := by decide +kernel
theorem d_Mi_expand_6 : decode prog_2_method_5_code 6 = .ok (.lconst 0, 1) := by decide +kernel
theorem d_Mi_expand_7 : decode prog_2_method_5_code 7 = .ok (.lstore 8, 2) := by decide +kernel
theorem d_Mi_expand_9 : decode prog_2_method_5_code 9 = .ok (.iconst 1, 1) := by decide +kernel
theorem d_Mi_expand_10 : decode prog_2_method_5_code 10 = .ok (.istore 10, 2) := by decide +kernel
theorem d_Mi_expand_12 : decode prog_2_method_5_code 12 = .ok (.iconst 0, 1) := by decide +kernel
theorem d_Mi_expand_13 : decode prog_2_method_5_code 13 = .ok (.istore 11, 2) := by decide +kernel
theorem d_Mi_expand_15 : decode prog_2_method_5_code 15 = .ok (.iload 11, 2) := by decide +kernel
theorem d_Mi_expand_17 : decode prog_2_method_5_code 17 = .ok (.aload_n 1, 1) := by decide +kernel
theorem d_Mi_expand_18 : decode prog_2_method_5_code 18 = .ok (.getfield 38, 3) := by decide +kernel
theorem d_Mi_expand_21 : decode prog_2_method_5_code 21 = .ok (.if_icmp .ge 90, 3) := by decide +kernel
theorem d_Mi_expand_24 : decode prog_2_method_5_code 24 = .ok (.iload_n 3, 1) := by decide +kernel
theorem d_Mi_expand_25 : decode prog_2_method_5_code 25 = .ok (.iconst 1, 1) := by decide +kernel
theorem d_Mi_expand_26 : decode prog_2_method_5_code 26 = .ok (.iload 11, 2) := by decide +kernel
theorem d_Mi_expand_28 : decode prog_2_method_5_code 28 = .ok (.ishl, 1) := by decide +kernel
theorem d_Mi_expand_29 : decode prog_2_method_5_code 29 = .ok (.iconst (-1), 1) := by decide +kernel
theorem d_Mi_expand_30 : decode prog_2_method_5_code 30 = .ok (.ixor, 1) := by decide +kernel
theorem d_Mi_expand_31 : decode prog_2_method_5_code 31 = .ok (.iand, 1) := by decide +kernel
theorem d_Mi_expand_32 : decode prog_2_method_5_code 32 = .ok (.istore 12, 2) := by decide +kernel
theorem d_Mi_expand_34 : decode prog_2_method_5_code 34 = .ok (.iload 12, 2) := by decide +kernel
theorem d_Mi_expand_36 : decode prog_2_method_5_code 36 = .ok (.iload_n 3, 1) := by decide +kernel
theorem d_Mi_expand_37 : decode prog_2_method_5_code 37 = .ok (.if_icmp .eq 68, 3) := by decide +kernel
theorem d_Mi_expand_40 : decode prog_2_method_5_code 40 = .ok (.iload 10, 2) := by decide +kernel
theorem d_Mi_expand_42 : decode prog_2_method_5_code 42 = .ok (.aload_n 1, 1) := by decide +kernel
theorem d_Mi_expand_43 : decode prog_2_method_5_code 43 = .ok (.getfield 44, 3) := by decide +kernel
theorem d_Mi_expand_46 : decode prog_2_method_5_code 46 = .ok (.iload_n 2, 1) := by decide +kernel
theorem d_Mi_expand_47 : decode prog_2_method_5_code 47 = .ok (.iload 11, 2) := by decide +kernel
theorem d_Mi_expand_49 : decode prog_2_method_5_code 49 = .ok (.iadd, 1) := by decide +kernel
theorem d_Mi_expand_50 : decode prog_2_method_5_code 50 = .ok (.iaload, 1) := by decide +kernel
theorem d_Mi_expand_51 : decode prog_2_method_5_code 51 = .ok (.imul, 1) := by decide +kernel
theorem d_Mi_expand_52 : decode prog_2_method_5_code 52 = .ok (.i2l, 1) := by decide +kernel
theorem d_Mi_expand_53 : decode prog_2_method_5_code 53 = .ok (.lstore 13, 2) := by decide +kernel
theorem d_Mi_expand_55 : decode prog_2_method_5_code 55 = .ok (.lload 4, 2) := by decide +kernel
theorem d_Mi_expand_57 : decode prog_2_method_5_code 57 = .ok (.lload 13, 2) := by decide +kernel
theorem d_Mi_expand_59 : decode prog_2_method_5_code 59 = .ok (.aload_n 0, 1) := by decide +kernel
theorem d_Mi_expand_60 : decode prog_2_method_5_code 60 = .ok (.getfield 11, 3) := by decide +kernel
theorem d_Mi_expand_63 : decode prog_2_method_5_code 63 = .ok (.iload 12, 2) := by decide +kernel
theorem d_Mi_expand_65 : decode prog_2_method_5_code 65 = .ok (.laload, 1) := by decide +kernel
theorem d_Mi_expand_66 : decode prog_2_method_5_code 66 = .ok (.lmul, 1) := by decide +kernel
theorem d_Mi_expand_67 : decode prog_2_method_5_code 67 = .ok (.ladd, 1) := by decide +kernel
theorem d_Mi_expand_68 : decode prog_2_method_5_code 68 = .ok (.lstore 4, 2) := by decide +kernel
theorem d_Mi_expand_70 : decode prog_2_method_5_code 70 = .ok (.lload 6, 2) := by decide +kernel
theorem d_Mi_expand_72 : decode prog_2_method_5_code 72 = .ok (.lload 13, 2) := by decide +kernel
theorem d_Mi_expand_74 : decode prog_2_method_5_code 74 = .ok (.aload_n 0, 1) := by decide +kernel
theorem d_Mi_expand_75 : decode prog_2_method_5_code 75 = .ok (.getfield 15, 3) := by decide +kernel
theorem d_Mi_expand_78 : decode prog_2_method_5_code 78 = .ok (.iload 12, 2) := by decide +kernel
theorem d_Mi_expand_80 : decode prog_2_method_5_code 80 = .ok (.laload, 1) := by decide +kernel
theorem d_Mi_expand_81 : decode prog_2_method_5_code 81 = .ok (.lmul, 1) := by decide +kernel
theorem d_Mi_expand_82 : decode prog_2_method_5_code 82 = .ok (.ladd, 1) := by decide +kernel
theorem d_Mi_expand_83 : decode prog_2_method_5_code 83 = .ok (.lstore 6, 2) := by decide +kernel
theorem d_Mi_expand_85 : decode prog_2_method_5_code 85 = .ok (.lload 8, 2) := by decide +kernel
theorem d_Mi_expand_87 : decode prog_2_method_5_code 87 = .ok (.lload 13, 2) := by decide +kernel
theorem d_Mi_expand_89 : decode prog_2_method_5_code 89 = .ok (.aload_n 0, 1) := by decide +kernel
theorem d_Mi_expand_90 : decode prog_2_method_5_code 90 = .ok (.getfield 18, 3) := by decide +kernel
theorem d_Mi_expand_93 : decode prog_2_method_5_code 93 = .ok (.iload 12, 2) := by decide +kernel
theorem d_Mi_expand_95 : decode prog_2_method_5_code 95 = .ok (.laload, 1) := by decide +kernel
theorem d_Mi_expand_96 : decode prog_2_method_5_code 96 = .ok (.lmul, 1) := by decide +kernel
theorem d_Mi_expand_97 : decode prog_2_method_5_code 97 = .ok (.ladd, 1) := by decide +kernel
theorem d_Mi_expand_98 : decode prog_2_method_5_code 98 = .ok (.lstore 8, 2) := by decide +kernel
theorem d_Mi_expand_100 : decode prog_2_method_5_code 100 = .ok (.iload 10, 2) := by decide +kernel
theorem d_Mi_expand_102 : decode prog_2_method_5_code 102 = .ok (.ineg, 1) := by decide +kernel
theorem d_Mi_expand_103 : decode prog_2_method_5_code 103 = .ok (.istore 10, 2) := by decide +kernel
theorem d_Mi_expand_105 : decode prog_2_method_5_code 105 = .ok (.iinc 11 1, 3) := by decide +kernel
theorem d_Mi_expand_108 : decode prog_2_method_5_code 108 = .ok (.goto (-93), 3) := by decide +kernel
theorem d_Mi_expand_111 : decode prog_2_method_5_code 111 = .ok (.aload_n 1, 1) := by decide +kernel
theorem d_Mi_expand_112 : decode prog_2_method_5_code 112 = .ok (.getfield 47, 3) := by decide +kernel
theorem d_Mi_expand_115 : decode prog_2_method_5_code 115 = .ok (.ifCond .eq 34, 3) := by decide +kernel
theorem d_Mi_expand_118 : decode prog_2_method_5_code 118 = .ok (.aload_n 0, 1) := by decide +kernel
theorem d_Mi_expand_119 : decode prog_2_method_5_code 119 = .ok (.getfield 11, 3) := by decide +kernel
theorem d_Mi_expand_122 : decode prog_2_method_5_code 122 = .ok (.iload_n 3, 1) := by decide +kernel
theorem d_Mi_expand_123 : decode prog_2_method_5_code 123 = .ok (.lload 4, 2) := by decide +kernel
theorem d_Mi_expand_125 : decode prog_2_method_5_code 125 = .ok (.aload_n 1, 1) := by decide +kernel
theorem d_Mi_expand_126 : decode prog_2_method_5_code 126 = .ok (.getfield 47, 3) := by decide +kernel
theorem d_Mi_expand_129 : decode prog_2_method_5_code 129 = .ok (.i2l, 1) := by decide +kernel
theorem d_Mi_expand_130 : decode prog_2_method_5_code 130 = .ok (.invokestatic 50, 3) := by decide +kernel
theorem d_Mi_expand_133 : decode prog_2_method_5_code 133 = .ok (.lastore, 1) := by decide +kernel
theorem d_Mi_expand_134 : decode prog_2_method_5_code 134 = .ok (.aload_n 0, 1) := by decide +kernel
theorem d_Mi_expand_135 : decode prog_2_method_5_code 135 = .ok (.getfield 15, 3) := by decide +kernel
theorem d_Mi_expand_138 : decode prog_2_method_5_code 138 = .ok (.iload_n 3, 1) := by decide +kernel
theorem d_Mi_expand_139 : decode prog_2_method_5_code 139 = .ok (.lconst 0, 1) := by decide +kernel
theorem d_Mi_expand_140 : decode prog_2_method_5_code 140 = .ok (.lastore, 1) := by decide +kernel
theorem d_Mi_expand_141 : decode prog_2_method_5_code 141 = .ok (.aload_n 0, 1) := by decide +kernel
theorem d_Mi_expand_142 : decode prog_2_method_5_code 142 = .ok (.getfield 18, 3) := by decide +kernel
theorem d_Mi_expand_145 : decode prog_2_method_5_code 145 = .ok (.iload_n 3, 1) := by decide +kernel
theorem d_Mi_expand_146 : decode prog_2_method_5_code 146 = .ok (.lconst 0, 1) := by decide +kernel
theorem d_Mi_expand_147 : decode prog_2_method_5_code 147 = .ok (.lastore, 1) := by decide +kernel
theorem d_Mi_expand_148 : decode prog_2_method_5_code 148 = .ok (.return_, 1) := by decide +kernel
theorem d_Mi_expand_149 : decode prog_2_method_5_code 149 = .ok (.lload 6, 2) := by decide +kernel
theorem d_Mi_expand_151 : decode prog_2_method_5_code 151 = .ok (.lload 4, 2) := by decide +kernel
theorem d_Mi_expand_153 : decode prog_2_method_5_code 153 = .ok (.bipush 48, 2) := by decide +kernel
theorem d_Mi_expand_155 : decode prog_2_method_5_code 155 = .ok (.lshr, 1) := by decide +kernel
theorem d_Mi_expand_156 : decode prog_2_method_5_code 156 = .ok (.ladd, 1) := by decide +kernel
theorem d_Mi_expand_157 : decode prog_2_method_5_code 157 = .ok (.lstore 6, 2) := by decide +kernel
theorem d_Mi_expand_159 : decode prog_2_method_5_code 159 = .ok (.lload 8, 2) := by decide +kernel
theorem d_Mi_expand_161 : decode prog_2_method_5_code 161 = .ok (.lload 6, 2) := by decide +kernel
theorem d_Mi_expand_163 : decode prog_2_method_5_code 163 = .ok (.bipush 48, 2) := by decide +kernel
theorem d_Mi_expand_165 : decode prog_2_method_5_code 165 = .ok (.lshr, 1) := by decide +kernel
theorem d_Mi_expand_166 : decode prog_2_method_5_code 166 = .ok (.ladd, 1) := by decide +kernel
theorem d_Mi_expand_167 : decode prog_2_method_5_code 167 = .ok (.lstore 8, 2) := by decide +kernel
theorem d_Mi_expand_169 : decode prog_2_method_5_code 169 = .ok (.aload_n 0, 1) := by decide +kernel
theorem d_Mi_expand_170 : decode prog_2_method_5_code 170 = .ok (.getfield 11, 3) := by decide +kernel
theorem d_Mi_expand_173 : decode prog_2_method_5_code 173 = .ok (.iload_n 3, 1) := by decide +kernel
theorem d_Mi_expand_174 : decode prog_2_method_5_code 174 = .ok (.lload 4, 2) := by decide +kernel
theorem d_Mi_expand_176 : decode prog_2_method_5_code 176 = .ok (.ldc2_w 56, 3) := by decide +kernel
theorem d_Mi_expand_179 : decode prog_2_method_5_code 179 = .ok (.land, 1) := by decide +kernel
theorem d_Mi_expand_180 : decode prog_2_method_5_code 180 = .ok (.lastore, 1) := by decide +kernel
theorem d_Mi_expand_181 : decode prog_2_method_5_code 181 = .ok (.aload_n 0, 1) := by decide +kernel
theorem d_Mi_expand_182 : decode prog_2_method_5_code 182 = .ok (.getfield 15, 3) := by decide +kernel
theorem d_Mi_expand_185 : decode prog_2_method_5_code 185 = .ok (.iload_n 3, 1) := by decide +kernel
theorem d_Mi_expand_186 : decode prog_2_method_5_code 186 = .ok (.lload 6, 2) := by decide +kernel
theorem d_Mi_expand_188 : decode prog_2_method_5_code 188 = .ok (.ldc2_w 56, 3) := by decide +kernel
theorem d_Mi_expand_191 : decode prog_2_method_5_code 191 = .ok (.land, 1) := by decide +kernel
theorem d_Mi_expand_192 : decode prog_2_method_5_code 192 = .ok (.lastore, 1) := by decide +kernel
theorem d_Mi_expand_193 : decode prog_2_method_5_code 193 = .ok (.aload_n 0, 1) := by decide +kernel
theorem d_Mi_expand_194 : decode prog_2_method_5_code 194 = .ok (.getfield 18, 3) := by decide +kernel
theorem d_Mi_expand_197 : decode prog_2_method_5_code 197 = .ok (.iload_n 3, 1) := by decide +kernel
theorem d_Mi_expand_198 : decode prog_2_method_5_code 198 = .ok (.lload 8, 2) := by decide +kernel
theorem d_Mi_expand_200 : decode prog_2_method_5_code 200 = .ok (.lastore, 1) := by decide +kernel
theorem d_Mi_expand_201 : decode prog_2_method_5_code 201 = .ok (.return_, 1) := by decide +kernel
def f_M_expand (m_low_n : Nat) (m_low : Nat → Int64) (m_middle_n : Nat) (m_middle : Nat → Int64) (m_high_n : Nat) (m_high : Nat → Int64) (t_field : Int32) (t_columnCount : Int32) (t_numbers_n : Nat) (t_numbers : Nat → Int32) (place0 : Int32) (set0 : Int32) : Option ((Nat → Int64) × (Nat → Int64) × (Nat → Int64)) :=
  ck_jn (fun (v8_1 : Int64) (v6_2 : Int64) (v4_3 : Int64) => ck_if (t_field = 0) (ck_nm (v6_2 + (v4_3 >>> ((48 : Int32).toInt64 &&& 63))) <| fun x_5 => ck_nm (v8_1 + (x_5 >>> ((48 : Int32).toInt64 &&& 63))) <| fun x_6 => ck_in set0 m_low_n <| ck_in set0 m_middle_n <| ck_in set0 m_high_n <| some ((vp_updL m_low set0.toNatClampNeg (v4_3 &&& 281474976710655)), (vp_updL m_middle set0.toNatClampNeg (x_5 &&& 281474976710655)), (vp_updL m_high set0.toNatClampNeg x_6))) (ck_b1 (f_floorModL v4_3 t_field.toInt64) <| fun r_10 => ck_in set0 m_low_n <| ck_in set0 m_middle_n <| ck_in set0 m_high_n <| some ((vp_updL m_low set0.toNatClampNeg r_10), (vp_updL m_middle set0.toNatClampNeg 0), (vp_updL m_high set0.toNatClampNeg 0)))) <| fun k_111 => lo5 (fun k_15 (v11_15 : Int32) (v10_16 : Int32) (v8_17 : Int64) (v6_18 : Int64) (v4_19 : Int64) => ck_if (t_columnCount ≤ v11_15) (k_111 v8_17 v6_18 v4_19) (ck_nm (set0 &&& (((1 : Int32) <<< (v11_15 &&& 31)) ^^^ (-1))) <| fun x_21 => ck_jn (fun (v4_22 : Int64) (v6_23 : Int64) (v8_24 : Int64) (v10_25 : Int32) => ck_nm (v11_15 + 1) <| fun x_26 => k_15 x_26 v10_25 v8_24 v6_23 v4_22) <| fun k_105 => ck_if (x_21 = set0) (k_105 v4_19 v6_18 v8_17 v10_16) (ck_in (place0 + v11_15) t_numbers_n <| ck_nm ((v10_16 * (t_numbers (place0 + v11_15).toNatClampNeg)).toInt64) <| fun x_29 => ck_in x_21 m_low_n <| ck_nm (v4_19 + (x_29 * (m_low x_21.toNatClampNeg))) <| fun x_31 => ck_in x_21 m_middle_n <| ck_nm (v6_18 + (x_29 * (m_middle x_21.toNatClampNeg))) <| fun x_33 => ck_in x_21 m_high_n <| ck_nm (v8_17 + (x_29 * (m_high x_21.toNatClampNeg))) <| fun x_35 => ck_nm (-v10_16) <| fun x_36 => k_105 x_31 x_33 x_35 x_36))) ck_F 0 1 0 0 0
set_option maxHeartbeats 4000000 in
set_option maxRecDepth 100000 in
theorem c_M_expand (l : Launch) (dC : Nat → ClassId) (dI : Nat → Nat → Nat) (cI cJ cB cZ cT cN : ClassId) (sz : Nat) (h_m : Nat) (h_t : Nat) (h_m_low : Nat) (h_m_middle : Nat) (h_m_high : Nat) (h_t_numbers : Nat) (h_t_study : Nat) (m_low_n : Nat) (m_low : Nat → Int64) (m_middle_n : Nat) (m_middle : Nat → Int64) (m_high_n : Nat) (m_high : Nat → Int64) (t_field : Int32) (t_rowCount : Int32) (t_columnCount : Int32) (t_studied : Int32) (t_numbers_n : Nat) (t_numbers : Nat → Int32) (place0 : Int32) (set0 : Int32) (r : (Nat → Int64) × (Nat → Int64) × (Nat → Int64)) (h : f_M_expand m_low_n m_low m_middle_n m_middle m_high_n m_high t_field t_columnCount t_numbers_n t_numbers place0 set0 = some r) : Met l y_Mi_expand w_Mi_expand ({ frames := 1, cells := 0, slots := 0, locals := 25 } : Room) (va_Pc [.ref h_m, .ref h_t, .int place0, .int set0] (fun U => U.heap.size = sz ∧ va_P (dC, dI) cl_all [(h_m, .inr (0, [.ref h_m_low, .ref h_m_middle, .ref h_m_high])), (h_m_low, .inl (cJ, m_low_n, .inr (.inl m_low))), (h_m_middle, .inl (cJ, m_middle_n, .inr (.inl m_middle))), (h_m_high, .inl (cJ, m_high_n, .inr (.inl m_high))), (h_t, .inr (3, [.int t_field, .int t_rowCount, .int t_columnCount, .ref h_t_numbers, .int t_studied, .ref h_t_study])), (h_t_numbers, .inl (cI, t_numbers_n, .inl t_numbers))] U.heap ∧ va_K (dC, dI) cl_all [(cI, .int), (cJ, .long), (cB, .byte), (cZ, .boolean), (cT, .object "BasisWalk$Table"), (cN, .object "BasisWalkModel$Num")] U ∧ NW U ∧ va_D (fun _ => True) [(h_m, .inr (0, [.ref h_m_low, .ref h_m_middle, .ref h_m_high])), (h_m_low, .inl (cJ, m_low_n, .inr (.inl m_low))), (h_m_middle, .inl (cJ, m_middle_n, .inr (.inl m_middle))), (h_m_high, .inl (cJ, m_high_n, .inr (.inl m_high))), (h_t, .inr (3, [.int t_field, .int t_rowCount, .int t_columnCount, .ref h_t_numbers, .int t_studied, .ref h_t_study])), (h_t_numbers, .inl (cI, t_numbers_n, .inl t_numbers))])) (va_Qv (fun u : (Nat → Int64) × (Nat → Int64) × (Nat → Int64) => u = r) (fun (u : (Nat → Int64) × (Nat → Int64) × (Nat → Int64)) (t : State) => va_P (dC, dI) cl_all [(h_m, .inr (0, [.ref h_m_low, .ref h_m_middle, .ref h_m_high])), (h_m_low, .inl (cJ, m_low_n, .inr (.inl u.1))), (h_m_middle, .inl (cJ, m_middle_n, .inr (.inl u.2.1))), (h_m_high, .inl (cJ, m_high_n, .inr (.inl u.2.2))), (h_t, .inr (3, [.int t_field, .int t_rowCount, .int t_columnCount, .ref h_t_numbers, .int t_studied, .ref h_t_study])), (h_t_numbers, .inl (cI, t_numbers_n, .inl t_numbers))] t.heap ∧ va_K (dC, dI) cl_all [(cI, .int), (cJ, .long), (cB, .byte), (cZ, .boolean), (cT, .object "BasisWalk$Table"), (cN, .object "BasisWalkModel$Num")] t ∧ va_D (va_A [(h_m, .inr (0, [.ref h_m_low, .ref h_m_middle, .ref h_m_high])), (h_m_low, .inl (cJ, m_low_n, .inr (.inl m_low))), (h_m_middle, .inl (cJ, m_middle_n, .inr (.inl m_middle))), (h_m_high, .inl (cJ, m_high_n, .inr (.inl m_high))), (h_t, .inr (3, [.int t_field, .int t_rowCount, .int t_columnCount, .ref h_t_numbers, .int t_studied, .ref h_t_study])), (h_t_numbers, .inl (cI, t_numbers_n, .inl t_numbers))] sz) [(h_m, .inr (0, [.ref h_m_low, .ref h_m_middle, .ref h_m_high])), (h_m_low, .inl (cJ, m_low_n, .inr (.inl u.1))), (h_m_middle, .inl (cJ, m_middle_n, .inr (.inl u.2.1))), (h_m_high, .inl (cJ, m_high_n, .inr (.inl u.2.2))), (h_t, .inr (3, [.int t_field, .int t_rowCount, .int t_columnCount, .ref h_t_numbers, .int t_studied, .ref h_t_study])), (h_t_numbers, .inl (cI, t_numbers_n, .inl t_numbers))]) (va_A [(h_m, .inr (0, [.ref h_m_low, .ref h_m_middle, .ref h_m_high])), (h_m_low, .inl (cJ, m_low_n, .inr (.inl m_low))), (h_m_middle, .inl (cJ, m_middle_n, .inr (.inl m_middle))), (h_m_high, .inl (cJ, m_high_n, .inr (.inl m_high))), (h_t, .inr (3, [.int t_field, .int t_rowCount, .int t_columnCount, .ref h_t_numbers, .int t_studied, .ref h_t_study])), (h_t_numbers, .inl (cI, t_numbers_n, .inl t_numbers))] sz)) 0 0 (va_A [(h_m, .inr (0, [.ref h_m_low, .ref h_m_middle, .ref h_m_high])), (h_m_low, .inl (cJ, m_low_n, .inr (.inl m_low))), (h_m_middle, .inl (cJ, m_middle_n, .inr (.inl m_middle))), (h_m_high, .inl (cJ, m_high_n, .inr (.inl m_high))), (h_t, .inr (3, [.int t_field, .int t_rowCount, .int t_columnCount, .ref h_t_numbers, .int t_studied, .ref h_t_study])), (h_t_numbers, .inl (cI, t_numbers_n, .inl t_numbers))] sz) := by
  refine Met.ofW (cc := prog_2_method_5_code) (maxL := 15) (ret := (Option.none : Option Jvm.ClassFile.FieldType)) (by decide) rfl ?_
  intro p e s m args below meth c s₁ B hml hv
  obtain ⟨hAR, hsz, hP, hK, hN, hD0⟩ := hv
  have hx := B.exec
  have hb := B.bytes
  have hr := B.returns
  have hts := atoms_spec (ws := w_Mi_expand) B.pre
  have hown : s.vm.findClass "BasisWalk$Minors" = some m.cls := findClass_of_methodNamed B.named
  have hlocks := B.notSynchronized
  clear B
  subst hsz
  have hD := hD0.self (sz := s.heap.size)
  generalize hAe : va_A [(h_m, .inr (0, [.ref h_m_low, .ref h_m_middle, .ref h_m_high])), (h_m_low, .inl (cJ, m_low_n, .inr (.inl m_low))), (h_m_middle, .inl (cJ, m_middle_n, .inr (.inl m_middle))), (h_m_high, .inl (cJ, m_high_n, .inr (.inl m_high))), (h_t, .inr (3, [.int t_field, .int t_rowCount, .int t_columnCount, .ref h_t_numbers, .int t_studied, .ref h_t_study])), (h_t_numbers, .inl (cI, t_numbers_n, .inl t_numbers))] s.heap.size = A at hD ⊢
  have hA : ∀ q : Nat, s.heap.size ≤ q → A q := fun q h => by rw [← hAe]; exact Or.inr h
  clear hAe hD0
  have hS : va_S A s.heap s.heap [] := va_S.rf
  have hl := lv_entry ([.ref h_m, .ref h_t, .int place0, .int set0]) (n := 15) (Nat.le_of_ble_eq_true rfl)
  subst hAR
  rw [lg_entry_eq]
  generalize (lg_sl ([.ref h_m, .ref h_t, .int place0, .int set0]) ++ List.replicate (15 - (lg_sl ([.ref h_m, .ref h_t, .int place0, .int set0])).length) Slot.unset).toArray = ls at hl ⊢
  have hl : lv_has ls 15 [(0, .ref h_m), (1, .ref h_t), (2, .int place0), (3, .int set0)] := hl
  change W p l e ({ frames := 1, cells := 0, slots := 0, locals := 25 } : Room) s m _ below meth c s.heap [] 0 0 _ _
  generalize hARe : ([.ref h_m, .ref h_t, .int place0, .int set0] : List Value).toArray = AR at hts ⊢
  clear hARe
  generalize hQ : MQ below _ AR s 0 0 A = QQ
  have fl0 := va_Nw.use (A := AR) rfl (hN _ tn_59)
  have iw1 := (fun w hw => List.mem_cons_of_mem _ (in_Ta w hw) : ∀ w ∈ u_ws "BasisWalk$Table" T_Ta 6, w ∈ w_Mi_expand)
  have fl2 := hts _ (List.mem_cons_of_mem _ tw_115)
  have iw3 := (fun w hw => List.mem_cons_of_mem _ (in_Mi w hw) : ∀ w ∈ u_ws "BasisWalk$Minors" T_Mi 3, w ∈ w_Mi_expand)
  have kc4 := hts _ (List.mem_cons_of_mem _ tw_228)
  have fl5 := hts _ (List.mem_cons_of_mem _ tw_116)
  have fl6 := hts _ (List.mem_cons_of_mem _ tw_117)
  have fl7 := va_Nw.use (A := AR) rfl (hN _ tn_66)
  have fl8 := va_Nw.use (A := AR) rfl (hN _ tn_68)
  obtain ⟨H, hHe⟩ : ∃ H : Heap, H = s.heap := ⟨_, rfl⟩
  rw [← hHe] at hP ⊢
  replace hS : va_S A s.heap H [] := by rw [hHe]; exact va_S.rf
  clear hHe
  unfold f_M_expand at h
  refine lv_lconst (v := 0) hx hb d_Mi_expand_0 (by decide) ?_
  refine lv_lstore (lv' := [(4, .long 0), (0, .ref h_m), (1, .ref h_t), (2, .int place0), (3, .int set0)]) hx hb d_Mi_expand_1 hl (by decide) rfl (fun ls hl => ?_)
  refine lv_lconst (v := 0) hx hb d_Mi_expand_3 (by decide) ?_
  refine lv_lstore (lv' := [(6, .long 0), (4, .long 0), (0, .ref h_m), (1, .ref h_t), (2, .int place0), (3, .int set0)]) hx hb d_Mi_expand_4 hl (by decide) rfl (fun ls hl => ?_)
  refine lv_lconst (v := 0) hx hb d_Mi_expand_6 (by decide) ?_
  refine lv_lstore (lv' := [(8, .long 0), (6, .long 0), (4, .long 0), (0, .ref h_m), (1, .ref h_t), (2, .int place0), (3, .int set0)]) hx hb d_Mi_expand_7 hl (by decide) rfl (fun ls hl => ?_)
  refine lv_iconst (v := 1) hx hb d_Mi_expand_9 (by decide) ?_
  refine lv_istore (lv' := [(10, .int 1), (8, .long 0), (6, .long 0), (4, .long 0), (0, .ref h_m), (1, .ref h_t), (2, .int place0), (3, .int set0)]) hx hb d_Mi_expand_10 hl (by decide) rfl (fun ls hl => ?_)
  refine lv_iconst (v := 0) hx hb d_Mi_expand_12 (by decide) ?_
  refine lv_istore (lv' := [(11, .int 0), (10, .int 1), (8, .long 0), (6, .long 0), (4, .long 0), (0, .ref h_m), (1, .ref h_t), (2, .int place0), (3, .int set0)]) hx hb d_Mi_expand_13 hl (by decide) rfl (fun ls hl => ?_)
  refine ck_jn_W h (fun k' => ∀ (v8_1 : Int64) (v6_2 : Int64) (v4_3 : Int64), k' v8_1 v6_2 v4_3 = some r → ∀ (H : Heap) (locs : List Loc), va_P (dC, dI) cl_all [(h_m, .inr (0, [.ref h_m_low, .ref h_m_middle, .ref h_m_high])), (h_m_low, .inl (cJ, m_low_n, .inr (.inl m_low))), (h_m_middle, .inl (cJ, m_middle_n, .inr (.inl m_middle))), (h_m_high, .inl (cJ, m_high_n, .inr (.inl m_high))), (h_t, .inr (3, [.int t_field, .int t_rowCount, .int t_columnCount, .ref h_t_numbers, .int t_studied, .ref h_t_study])), (h_t_numbers, .inl (cI, t_numbers_n, .inl t_numbers))] H → va_D A [(h_m, .inr (0, [.ref h_m_low, .ref h_m_middle, .ref h_m_high])), (h_m_low, .inl (cJ, m_low_n, .inr (.inl m_low))), (h_m_middle, .inl (cJ, m_middle_n, .inr (.inl m_middle))), (h_m_high, .inl (cJ, m_high_n, .inr (.inl m_high))), (h_t, .inr (3, [.int t_field, .int t_rowCount, .int t_columnCount, .ref h_t_numbers, .int t_studied, .ref h_t_study])), (h_t_numbers, .inl (cI, t_numbers_n, .inl t_numbers))] → va_S A s.heap H locs → ∀ ls : Array Slot, lv_has ls 15 [(0, .ref h_m), (1, .ref h_t), (3, .int set0), (4, .long v4_3), (6, .long v6_2), (8, .long v8_1)] → W p l e ({ frames := 1, cells := 0, slots := 0, locals := 25 } : Room) s m AR below meth c H locs 0 0 QQ (F0 m 111 ls [])) ?_ ?_
  · intro v8_1 v6_2 v4_3 h H locs hP hD hS ls hl
    refine lv_aload_n hx hb d_Mi_expand_111 rfl (lv_at hl 1 rfl) ?_
    refine va_getN (D := (dC, dI)) (ci := 3) (v := .int t_field) (C := "BasisWalk$Table") (T := T_Ta) (N := 6) hx hb hts iw1 hown hK hP 4 rfl rfl 0 (by decide) fl0 (fun _ h9 => h9) rfl d_Mi_expand_112 ?_
    refine lv_if_eq (tgt := 149) hx hb d_Mi_expand_115 (by decide) (fun c_4 => ?_) (fun c_4 => ?_)
    · replace h := ck_if_t h c_4
      refine lv_lload hx hb d_Mi_expand_149 (lv_at hl 4 rfl) ?_
      refine lv_lload hx hb d_Mi_expand_151 (lv_at hl 3 rfl) ?_
      refine lv_bipush (v := 48) hx hb d_Mi_expand_153 (by decide) ?_
      refine lv_lshr hx hb d_Mi_expand_155 rfl ?_
      refine lv_ladd hx hb d_Mi_expand_156 ?_
      refine lv_topl (fun x_5 ex_5 => ?_)
      replace h := ck_nm_s h ex_5
      refine lv_lstore (lv' := [(6, .long x_5), (0, .ref h_m), (1, .ref h_t), (3, .int set0), (4, .long v4_3), (8, .long v8_1)]) hx hb d_Mi_expand_157 hl (by decide) rfl (fun ls hl => ?_)
      refine lv_lload hx hb d_Mi_expand_159 (lv_at hl 5 rfl) ?_
      refine lv_lload hx hb d_Mi_expand_161 (lv_at hl 0 rfl) ?_
      refine lv_bipush (v := 48) hx hb d_Mi_expand_163 (by decide) ?_
      refine lv_lshr hx hb d_Mi_expand_165 rfl ?_
      refine lv_ladd hx hb d_Mi_expand_166 ?_
      refine lv_topl (fun x_6 ex_6 => ?_)
      replace h := ck_nm_s h ex_6
      refine lv_lstore (lv' := [(8, .long x_6), (6, .long x_5), (0, .ref h_m), (1, .ref h_t), (3, .int set0), (4, .long v4_3)]) hx hb d_Mi_expand_167 hl (by decide) rfl (fun ls hl => ?_)
      refine lv_aload_n hx hb d_Mi_expand_169 rfl (lv_at hl 2 rfl) ?_
      refine va_get (D := (dC, dI)) (ci := 0) (v := .ref h_m_low) (C := "BasisWalk$Minors") (T := T_Mi) (N := 3) hx hb hts iw3 hown hK hP 0 rfl rfl 0 (by decide) fl2 (fun _ h9 => h9) rfl d_Mi_expand_170 ?_
      refine lv_iload_n hx hb d_Mi_expand_173 rfl (lv_at hl 4 rfl) ?_
      refine lv_lload hx hb d_Mi_expand_174 (lv_at hl 5 rfl) ?_
      refine lv_ldc2 (v := 281474976710655) hx hb hown kc4 d_Mi_expand_176 ?_
      refine lv_land hx hb d_Mi_expand_179 ?_
      obtain ⟨g_7, h⟩ := ck_in_s h
      refine va_last hx hb hK hP hD hS 1 1 rfl rfl g_7 d_Mi_expand_180 (fun H locs hP hD hS => ?_)
      have hP : va_P (dC, dI) cl_all [(h_m, .inr (0, [.ref h_m_low, .ref h_m_middle, .ref h_m_high])), (h_m_low, .inl (cJ, m_low_n, .inr (.inl (vp_updL m_low set0.toNatClampNeg (v4_3 &&& 281474976710655))))), (h_m_middle, .inl (cJ, m_middle_n, .inr (.inl m_middle))), (h_m_high, .inl (cJ, m_high_n, .inr (.inl m_high))), (h_t, .inr (3, [.int t_field, .int t_rowCount, .int t_columnCount, .ref h_t_numbers, .int t_studied, .ref h_t_study])), (h_t_numbers, .inl (cI, t_numbers_n, .inl t_numbers))] H := hP
      have hD : va_D A [(h_m, .inr (0, [.ref h_m_low, .ref h_m_middle, .ref h_m_high])), (h_m_low, .inl (cJ, m_low_n, .inr (.inl (vp_updL m_low set0.toNatClampNeg (v4_3 &&& 281474976710655))))), (h_m_middle, .inl (cJ, m_middle_n, .inr (.inl m_middle))), (h_m_high, .inl (cJ, m_high_n, .inr (.inl m_high))), (h_t, .inr (3, [.int t_field, .int t_rowCount, .int t_columnCount, .ref h_t_numbers, .int t_studied, .ref h_t_study])), (h_t_numbers, .inl (cI, t_numbers_n, .inl t_numbers))] := hD
      refine lv_aload_n hx hb d_Mi_expand_181 rfl (lv_at hl 2 rfl) ?_
      refine va_get (D := (dC, dI)) (ci := 0) (v := .ref h_m_middle) (C := "BasisWalk$Minors") (T := T_Mi) (N := 3) hx hb hts iw3 hown hK hP 0 rfl rfl 1 (by decide) fl5 (fun _ h9 => h9) rfl d_Mi_expand_182 ?_
      refine lv_iload_n hx hb d_Mi_expand_185 rfl (lv_at hl 4 rfl) ?_
      refine lv_lload hx hb d_Mi_expand_186 (lv_at hl 1 rfl) ?_
      refine lv_ldc2 (v := 281474976710655) hx hb hown kc4 d_Mi_expand_188 ?_
      refine lv_land hx hb d_Mi_expand_191 ?_
      obtain ⟨g_8, h⟩ := ck_in_s h
      refine va_last hx hb hK hP hD hS 2 1 rfl rfl g_8 d_Mi_expand_192 (fun H locs hP hD hS => ?_)
      have hP : va_P (dC, dI) cl_all [(h_m, .inr (0, [.ref h_m_low, .ref h_m_middle, .ref h_m_high])), (h_m_low, .inl (cJ, m_low_n, .inr (.inl (vp_updL m_low set0.toNatClampNeg (v4_3 &&& 281474976710655))))), (h_m_middle, .inl (cJ, m_middle_n, .inr (.inl (vp_updL m_middle set0.toNatClampNeg (x_5 &&& 281474976710655))))), (h_m_high, .inl (cJ, m_high_n, .inr (.inl m_high))), (h_t, .inr (3, [.int t_field, .int t_rowCount, .int t_columnCount, .ref h_t_numbers, .int t_studied, .ref h_t_study])), (h_t_numbers, .inl (cI, t_numbers_n, .inl t_numbers))] H := hP
      have hD : va_D A [(h_m, .inr (0, [.ref h_m_low, .ref h_m_middle, .ref h_m_high])), (h_m_low, .inl (cJ, m_low_n, .inr (.inl (vp_updL m_low set0.toNatClampNeg (v4_3 &&& 281474976710655))))), (h_m_middle, .inl (cJ, m_middle_n, .inr (.inl (vp_updL m_middle set0.toNatClampNeg (x_5 &&& 281474976710655))))), (h_m_high, .inl (cJ, m_high_n, .inr (.inl m_high))), (h_t, .inr (3, [.int t_field, .int t_rowCount, .int t_columnCount, .ref h_t_numbers, .int t_studied, .ref h_t_study])), (h_t_numbers, .inl (cI, t_numbers_n, .inl t_numbers))] := hD
      refine lv_aload_n hx hb d_Mi_expand_193 rfl (lv_at hl 2 rfl) ?_
      refine va_get (D := (dC, dI)) (ci := 0) (v := .ref h_m_high) (C := "BasisWalk$Minors") (T := T_Mi) (N := 3) hx hb hts iw3 hown hK hP 0 rfl rfl 2 (by decide) fl6 (fun _ h9 => h9) rfl d_Mi_expand_194 ?_
      refine lv_iload_n hx hb d_Mi_expand_197 rfl (lv_at hl 4 rfl) ?_
      refine lv_lload hx hb d_Mi_expand_198 (lv_at hl 0 rfl) ?_
      obtain ⟨g_9, h⟩ := ck_in_s h
      refine va_last hx hb hK hP hD hS 3 1 rfl rfl g_9 d_Mi_expand_200 (fun H locs hP hD hS => ?_)
      have hP : va_P (dC, dI) cl_all [(h_m, .inr (0, [.ref h_m_low, .ref h_m_middle, .ref h_m_high])), (h_m_low, .inl (cJ, m_low_n, .inr (.inl (vp_updL m_low set0.toNatClampNeg (v4_3 &&& 281474976710655))))), (h_m_middle, .inl (cJ, m_middle_n, .inr (.inl (vp_updL m_middle set0.toNatClampNeg (x_5 &&& 281474976710655))))), (h_m_high, .inl (cJ, m_high_n, .inr (.inl (vp_updL m_high set0.toNatClampNeg x_6)))), (h_t, .inr (3, [.int t_field, .int t_rowCount, .int t_columnCount, .ref h_t_numbers, .int t_studied, .ref h_t_study])), (h_t_numbers, .inl (cI, t_numbers_n, .inl t_numbers))] H := hP
      have hD : va_D A [(h_m, .inr (0, [.ref h_m_low, .ref h_m_middle, .ref h_m_high])), (h_m_low, .inl (cJ, m_low_n, .inr (.inl (vp_updL m_low set0.toNatClampNeg (v4_3 &&& 281474976710655))))), (h_m_middle, .inl (cJ, m_middle_n, .inr (.inl (vp_updL m_middle set0.toNatClampNeg (x_5 &&& 281474976710655))))), (h_m_high, .inl (cJ, m_high_n, .inr (.inl (vp_updL m_high set0.toNatClampNeg x_6)))), (h_t, .inr (3, [.int t_field, .int t_rowCount, .int t_columnCount, .ref h_t_numbers, .int t_studied, .ref h_t_study])), (h_t_numbers, .inl (cI, t_numbers_n, .inl t_numbers))] := hD
      obtain rfl := Option.some.inj h
      subst hQ
      exact W.vret hx hb hr (fun t ht hW => ⟨⟨((vp_updL m_low set0.toNatClampNeg (v4_3 &&& 281474976710655)), (vp_updL m_middle set0.toNatClampNeg (x_5 &&& 281474976710655)), (vp_updL m_high set0.toNatClampNeg x_6)), rfl, rfl, by rw [ht]; exact hP, va_K.moved hW.alike hK, hD⟩, hS.F ht⟩) hS.2.2 d_Mi_expand_201
    · replace h := ck_if_f h c_4
      refine lv_aload_n hx hb d_Mi_expand_118 rfl (lv_at hl 0 rfl) ?_
      refine va_get (D := (dC, dI)) (ci := 0) (v := .ref h_m_low) (C := "BasisWalk$Minors") (T := T_Mi) (N := 3) hx hb hts iw3 hown hK hP 0 rfl rfl 0 (by decide) fl2 (fun _ h9 => h9) rfl d_Mi_expand_119 ?_
      refine lv_iload_n hx hb d_Mi_expand_122 rfl (lv_at hl 2 rfl) ?_
      refine lv_lload hx hb d_Mi_expand_123 (lv_at hl 3 rfl) ?_
      refine lv_aload_n hx hb d_Mi_expand_125 rfl (lv_at hl 1 rfl) ?_
      refine va_getN (D := (dC, dI)) (ci := 3) (v := .int t_field) (C := "BasisWalk$Table") (T := T_Ta) (N := 6) hx hb hts iw1 hown hK hP 4 rfl rfl 0 (by decide) fl0 (fun _ h9 => h9) rfl d_Mi_expand_126 ?_
      refine lv_i2l hx hb d_Mi_expand_129 rfl ?_
      obtain ⟨r_10, hc_11, h⟩ := ck_b1_s h
      have hPc := hP.sub (ws' := []) [] rfl
      have hDc := hD.sub (ws' := []) [] (by decide) rfl
      have hFc := va_free (wc := []) hD hS hA [] rfl
      refine va_calll (va_runS (As := [.long v4_3, .long t_field.toInt64]) (rest := [.int set0, .ref h_m_low]) ⟨hx, hb, hml, hown, hts⟩ (c_floorModL l dC dI cI cJ cB cZ cT cN H.size v4_3 t_field.toInt64 _ hc_11) (va_cwS 2 hts (tb_S tw_225 tw_226 tw_9 tw_227) rfl rfl rfl (by decide +kernel) ⟨Nat.le_of_ble_eq_true rfl, Nat.le_of_ble_eq_true rfl⟩) ⟨fun a U g mk q => by obtain ⟨q0, q1, qP, qK, qN, qD⟩ := q; exact ⟨q0, q1, qP, va_K.moved (u := U) (U := U.calling g mk a) (Vm.Alike.refl U.vm) qK, qN.same rfl, qD⟩, fun U hU hW => ⟨rfl, by rw [hU], by rw [hU]; exact hPc, va_K.moved hW.alike hK, hN.warm hW, hDc.weaken (fun _ _ _ _ => trivial)⟩⟩ rfl rfl hl.1 rfl (lv_room (Nat.le_of_ble_eq_true rfl)) d_Mi_expand_130 ⟨Nat.zero_le _, Nat.zero_le _⟩) hS (fun q _ h => hFc q h) hFc (fun rr u t H1 locs ht hvm hw hB hz1 hk1 hS => ?_)
      replace hw := hw.symm
      subst hw
      obtain ⟨hP1, -, hD1⟩ := hB
      rw [ht] at hP1
      obtain ⟨hP, hD⟩ := va_join (wr := [(h_m, .inr (0, [.ref h_m_low, .ref h_m_middle, .ref h_m_high])), (h_m_low, .inl (cJ, m_low_n, .inr (.inl m_low))), (h_m_middle, .inl (cJ, m_middle_n, .inr (.inl m_middle))), (h_m_high, .inl (cJ, m_high_n, .inr (.inl m_high))), (h_t, .inr (3, [.int t_field, .int t_rowCount, .int t_columnCount, .ref h_t_numbers, .int t_studied, .ref h_t_study])), (h_t_numbers, .inl (cI, t_numbers_n, .inl t_numbers))]) (w1 := []) hP hD [] [0, 1, 2, 3, 4, 5] rfl rfl (by decide) (by decide) hk1 hFc hP1 hD1
      generalize H1 = H at hP hS ⊢
      have hP : va_P (dC, dI) cl_all [(h_m, .inr (0, [.ref h_m_low, .ref h_m_middle, .ref h_m_high])), (h_m_low, .inl (cJ, m_low_n, .inr (.inl m_low))), (h_m_middle, .inl (cJ, m_middle_n, .inr (.inl m_middle))), (h_m_high, .inl (cJ, m_high_n, .inr (.inl m_high))), (h_t, .inr (3, [.int t_field, .int t_rowCount, .int t_columnCount, .ref h_t_numbers, .int t_studied, .ref h_t_study])), (h_t_numbers, .inl (cI, t_numbers_n, .inl t_numbers))] H := hP.sub [0, 1, 2, 3, 4, 5] rfl
      have hD : va_D A [(h_m, .inr (0, [.ref h_m_low, .ref h_m_middle, .ref h_m_high])), (h_m_low, .inl (cJ, m_low_n, .inr (.inl m_low))), (h_m_middle, .inl (cJ, m_middle_n, .inr (.inl m_middle))), (h_m_high, .inl (cJ, m_high_n, .inr (.inl m_high))), (h_t, .inr (3, [.int t_field, .int t_rowCount, .int t_columnCount, .ref h_t_numbers, .int t_studied, .ref h_t_study])), (h_t_numbers, .inl (cI, t_numbers_n, .inl t_numbers))] := hD.sub [0, 1, 2, 3, 4, 5] (by decide) rfl
      obtain ⟨g_12, h⟩ := ck_in_s h
      refine va_last hx hb hK hP hD hS 1 1 rfl rfl g_12 d_Mi_expand_133 (fun H locs hP hD hS => ?_)
      have hP : va_P (dC, dI) cl_all [(h_m, .inr (0, [.ref h_m_low, .ref h_m_middle, .ref h_m_high])), (h_m_low, .inl (cJ, m_low_n, .inr (.inl (vp_updL m_low set0.toNatClampNeg r_10)))), (h_m_middle, .inl (cJ, m_middle_n, .inr (.inl m_middle))), (h_m_high, .inl (cJ, m_high_n, .inr (.inl m_high))), (h_t, .inr (3, [.int t_field, .int t_rowCount, .int t_columnCount, .ref h_t_numbers, .int t_studied, .ref h_t_study])), (h_t_numbers, .inl (cI, t_numbers_n, .inl t_numbers))] H := hP
      have hD : va_D A [(h_m, .inr (0, [.ref h_m_low, .ref h_m_middle, .ref h_m_high])), (h_m_low, .inl (cJ, m_low_n, .inr (.inl (vp_updL m_low set0.toNatClampNeg r_10)))), (h_m_middle, .inl (cJ, m_middle_n, .inr (.inl m_middle))), (h_m_high, .inl (cJ, m_high_n, .inr (.inl m_high))), (h_t, .inr (3, [.int t_field, .int t_rowCount, .int t_columnCount, .ref h_t_numbers, .int t_studied, .ref h_t_study])), (h_t_numbers, .inl (cI, t_numbers_n, .inl t_numbers))] := hD
      refine lv_aload_n hx hb d_Mi_expand_134 rfl (lv_at hl 0 rfl) ?_
      refine va_get (D := (dC, dI)) (ci := 0) (v := .ref h_m_middle) (C := "BasisWalk$Minors") (T := T_Mi) (N := 3) hx hb hts iw3 hown hK hP 0 rfl rfl 1 (by decide) fl5 (fun _ h9 => h9) rfl d_Mi_expand_135 ?_
      refine lv_iload_n hx hb d_Mi_expand_138 rfl (lv_at hl 2 rfl) ?_
      refine lv_lconst (v := 0) hx hb d_Mi_expand_139 (by decide) ?_
      obtain ⟨g_13, h⟩ := ck_in_s h
      refine va_last hx hb hK hP hD hS 2 1 rfl rfl g_13 d_Mi_expand_140 (fun H locs hP hD hS => ?_)
      have hP : va_P (dC, dI) cl_all [(h_m, .inr (0, [.ref h_m_low, .ref h_m_middle, .ref h_m_high])), (h_m_low, .inl (cJ, m_low_n, .inr (.inl (vp_updL m_low set0.toNatClampNeg r_10)))), (h_m_middle, .inl (cJ, m_middle_n, .inr (.inl (vp_updL m_middle set0.toNatClampNeg 0)))), (h_m_high, .inl (cJ, m_high_n, .inr (.inl m_high))), (h_t, .inr (3, [.int t_field, .int t_rowCount, .int t_columnCount, .ref h_t_numbers, .int t_studied, .ref h_t_study])), (h_t_numbers, .inl (cI, t_numbers_n, .inl t_numbers))] H := hP
      have hD : va_D A [(h_m, .inr (0, [.ref h_m_low, .ref h_m_middle, .ref h_m_high])), (h_m_low, .inl (cJ, m_low_n, .inr (.inl (vp_updL m_low set0.toNatClampNeg r_10)))), (h_m_middle, .inl (cJ, m_middle_n, .inr (.inl (vp_updL m_middle set0.toNatClampNeg 0)))), (h_m_high, .inl (cJ, m_high_n, .inr (.inl m_high))), (h_t, .inr (3, [.int t_field, .int t_rowCount, .int t_columnCount, .ref h_t_numbers, .int t_studied, .ref h_t_study])), (h_t_numbers, .inl (cI, t_numbers_n, .inl t_numbers))] := hD
      refine lv_aload_n hx hb d_Mi_expand_141 rfl (lv_at hl 0 rfl) ?_
      refine va_get (D := (dC, dI)) (ci := 0) (v := .ref h_m_high) (C := "BasisWalk$Minors") (T := T_Mi) (N := 3) hx hb hts iw3 hown hK hP 0 rfl rfl 2 (by decide) fl6 (fun _ h9 => h9) rfl d_Mi_expand_142 ?_
      refine lv_iload_n hx hb d_Mi_expand_145 rfl (lv_at hl 2 rfl) ?_
      refine lv_lconst (v := 0) hx hb d_Mi_expand_146 (by decide) ?_
      obtain ⟨g_14, h⟩ := ck_in_s h
      refine va_last hx hb hK hP hD hS 3 1 rfl rfl g_14 d_Mi_expand_147 (fun H locs hP hD hS => ?_)
      have hP : va_P (dC, dI) cl_all [(h_m, .inr (0, [.ref h_m_low, .ref h_m_middle, .ref h_m_high])), (h_m_low, .inl (cJ, m_low_n, .inr (.inl (vp_updL m_low set0.toNatClampNeg r_10)))), (h_m_middle, .inl (cJ, m_middle_n, .inr (.inl (vp_updL m_middle set0.toNatClampNeg 0)))), (h_m_high, .inl (cJ, m_high_n, .inr (.inl (vp_updL m_high set0.toNatClampNeg 0)))), (h_t, .inr (3, [.int t_field, .int t_rowCount, .int t_columnCount, .ref h_t_numbers, .int t_studied, .ref h_t_study])), (h_t_numbers, .inl (cI, t_numbers_n, .inl t_numbers))] H := hP
      have hD : va_D A [(h_m, .inr (0, [.ref h_m_low, .ref h_m_middle, .ref h_m_high])), (h_m_low, .inl (cJ, m_low_n, .inr (.inl (vp_updL m_low set0.toNatClampNeg r_10)))), (h_m_middle, .inl (cJ, m_middle_n, .inr (.inl (vp_updL m_middle set0.toNatClampNeg 0)))), (h_m_high, .inl (cJ, m_high_n, .inr (.inl (vp_updL m_high set0.toNatClampNeg 0)))), (h_t, .inr (3, [.int t_field, .int t_rowCount, .int t_columnCount, .ref h_t_numbers, .int t_studied, .ref h_t_study])), (h_t_numbers, .inl (cI, t_numbers_n, .inl t_numbers))] := hD
      obtain rfl := Option.some.inj h
      subst hQ
      exact W.vret hx hb hr (fun t ht hW => ⟨⟨((vp_updL m_low set0.toNatClampNeg r_10), (vp_updL m_middle set0.toNatClampNeg 0), (vp_updL m_high set0.toNatClampNeg 0)), rfl, rfl, by rw [ht]; exact hP, va_K.moved hW.alike hK, hD⟩, hS.F ht⟩) hS.2.2 d_Mi_expand_148
  · intro k_111 J_111 h
    refine lo5_W (r := r) (fun (v11_15 : Int32) (v10_16 : Int32) (v8_17 : Int64) (v6_18 : Int64) (v4_19 : Int64) => ∀ (H : Heap) (locs : List Loc), va_P (dC, dI) cl_all [(h_m, .inr (0, [.ref h_m_low, .ref h_m_middle, .ref h_m_high])), (h_m_low, .inl (cJ, m_low_n, .inr (.inl m_low))), (h_m_middle, .inl (cJ, m_middle_n, .inr (.inl m_middle))), (h_m_high, .inl (cJ, m_high_n, .inr (.inl m_high))), (h_t, .inr (3, [.int t_field, .int t_rowCount, .int t_columnCount, .ref h_t_numbers, .int t_studied, .ref h_t_study])), (h_t_numbers, .inl (cI, t_numbers_n, .inl t_numbers))] H → va_D A [(h_m, .inr (0, [.ref h_m_low, .ref h_m_middle, .ref h_m_high])), (h_m_low, .inl (cJ, m_low_n, .inr (.inl m_low))), (h_m_middle, .inl (cJ, m_middle_n, .inr (.inl m_middle))), (h_m_high, .inl (cJ, m_high_n, .inr (.inl m_high))), (h_t, .inr (3, [.int t_field, .int t_rowCount, .int t_columnCount, .ref h_t_numbers, .int t_studied, .ref h_t_study])), (h_t_numbers, .inl (cI, t_numbers_n, .inl t_numbers))] → va_S A s.heap H locs → ∀ ls : Array Slot, lv_has ls 15 [(0, .ref h_m), (1, .ref h_t), (2, .int place0), (3, .int set0), (4, .long v4_19), (6, .long v6_18), (8, .long v8_17), (10, .int v10_16), (11, .int v11_15)] → W p l e ({ frames := 1, cells := 0, slots := 0, locals := 25 } : Room) s m AR below meth c H locs 0 0 QQ (F0 m 15 ls [])) ?_ _ _ _ _ _ _ h _ _ hP hD hS _ (lv_sub hl [5, 6, 7, 8, 4, 3, 2, 1, 0] rfl)
    intro k_15 v11_15 v10_16 v8_17 v6_18 v4_19 J_15 h H locs hP hD hS ls hl
    refine lv_iload hx hb d_Mi_expand_15 (lv_at hl 8 rfl) ?_
    refine lv_aload_n hx hb d_Mi_expand_17 rfl (lv_at hl 1 rfl) ?_
    refine va_getN (D := (dC, dI)) (ci := 3) (v := .int t_columnCount) (C := "BasisWalk$Table") (T := T_Ta) (N := 6) hx hb hts iw1 hown hK hP 4 rfl rfl 2 (by decide) fl7 (fun _ h9 => h9) rfl d_Mi_expand_18 ?_
    refine lv_icmp_ge (tgt := 111) hx hb d_Mi_expand_21 (by decide) (fun c_20 => ?_) (fun c_20 => ?_)
    · replace h := ck_if_t h c_20
      exact J_111 _ _ _ h _ _ hP hD hS _ (lv_sub hl [0, 1, 3, 4, 5, 6] rfl)
    · replace h := ck_if_f h c_20
      refine lv_iload_n hx hb d_Mi_expand_24 rfl (lv_at hl 3 rfl) ?_
      refine lv_iconst (v := 1) hx hb d_Mi_expand_25 (by decide) ?_
      refine lv_iload hx hb d_Mi_expand_26 (lv_at hl 8 rfl) ?_
      refine lv_ishl hx hb d_Mi_expand_28 ?_
      refine lv_iconst (v := (-1)) hx hb d_Mi_expand_29 (by decide) ?_
      refine lv_ixor hx hb d_Mi_expand_30 ?_
      refine lv_iand hx hb d_Mi_expand_31 ?_
      refine lv_topi (fun x_21 ex_21 => ?_)
      replace h := ck_nm_s h ex_21
      refine lv_istore (lv' := [(12, .int x_21), (0, .ref h_m), (1, .ref h_t), (2, .int place0), (3, .int set0), (4, .long v4_19), (6, .long v6_18), (8, .long v8_17), (10, .int v10_16), (11, .int v11_15)]) hx hb d_Mi_expand_32 hl (by decide) rfl (fun ls hl => ?_)
      refine lv_iload hx hb d_Mi_expand_34 (lv_at hl 0 rfl) ?_
      refine lv_iload_n hx hb d_Mi_expand_36 rfl (lv_at hl 4 rfl) ?_
      refine ck_jn_W h (fun k' => ∀ (v4_22 : Int64) (v6_23 : Int64) (v8_24 : Int64) (v10_25 : Int32), k' v4_22 v6_23 v8_24 v10_25 = some r → ∀ (H : Heap) (locs : List Loc), va_P (dC, dI) cl_all [(h_m, .inr (0, [.ref h_m_low, .ref h_m_middle, .ref h_m_high])), (h_m_low, .inl (cJ, m_low_n, .inr (.inl m_low))), (h_m_middle, .inl (cJ, m_middle_n, .inr (.inl m_middle))), (h_m_high, .inl (cJ, m_high_n, .inr (.inl m_high))), (h_t, .inr (3, [.int t_field, .int t_rowCount, .int t_columnCount, .ref h_t_numbers, .int t_studied, .ref h_t_study])), (h_t_numbers, .inl (cI, t_numbers_n, .inl t_numbers))] H → va_D A [(h_m, .inr (0, [.ref h_m_low, .ref h_m_middle, .ref h_m_high])), (h_m_low, .inl (cJ, m_low_n, .inr (.inl m_low))), (h_m_middle, .inl (cJ, m_middle_n, .inr (.inl m_middle))), (h_m_high, .inl (cJ, m_high_n, .inr (.inl m_high))), (h_t, .inr (3, [.int t_field, .int t_rowCount, .int t_columnCount, .ref h_t_numbers, .int t_studied, .ref h_t_study])), (h_t_numbers, .inl (cI, t_numbers_n, .inl t_numbers))] → va_S A s.heap H locs → ∀ ls : Array Slot, lv_has ls 15 [(0, .ref h_m), (1, .ref h_t), (2, .int place0), (3, .int set0), (4, .long v4_22), (6, .long v6_23), (8, .long v8_24), (10, .int v10_25), (11, .int v11_15)] → W p l e ({ frames := 1, cells := 0, slots := 0, locals := 25 } : Room) s m AR below meth c H locs 0 0 QQ (F0 m 105 ls [])) ?_ ?_
      · intro v4_22 v6_23 v8_24 v10_25 h H locs hP hD hS ls hl
        obtain ⟨x_26, ex_26⟩ : ∃ y : Int32, y = v11_15 + 1 := ⟨_, rfl⟩
        replace h := ck_nm_s h ex_26
        refine lv_iinc (v := x_26) (lv' := [(11, .int x_26), (0, .ref h_m), (1, .ref h_t), (2, .int place0), (3, .int set0), (4, .long v4_22), (6, .long v6_23), (8, .long v8_24), (10, .int v10_25)]) hx hb d_Mi_expand_105 hl (k := 8) rfl (by rw [ex_26]; rfl) (by decide) rfl (fun ls hl => ?_)
        refine lv_goto (tgt := 15) hx hb d_Mi_expand_108 (by decide) ?_
        exact J_15 _ _ _ _ _ h _ _ hP hD hS _ (lv_sub hl [1, 2, 3, 4, 5, 6, 7, 8, 0] rfl)
      · intro k_105 J_105 h
        refine lv_icmp_eq (tgt := 105) hx hb d_Mi_expand_37 (by decide) (fun c_27 => ?_) (fun c_27 => ?_)
        · replace h := ck_if_t h c_27
          exact J_105 _ _ _ _ h _ _ hP hD hS _ (lv_sub hl [1, 2, 3, 4, 5, 6, 7, 8, 9] rfl)
        · replace h := ck_if_f h c_27
          refine lv_iload hx hb d_Mi_expand_40 (lv_at hl 8 rfl) ?_
          refine lv_aload_n hx hb d_Mi_expand_42 rfl (lv_at hl 2 rfl) ?_
          refine va_getN (D := (dC, dI)) (ci := 3) (v := .ref h_t_numbers) (C := "BasisWalk$Table") (T := T_Ta) (N := 6) hx hb hts iw1 hown hK hP 4 rfl rfl 3 (by decide) fl8 (fun _ h9 => h9) rfl d_Mi_expand_43 ?_
          refine lv_iload_n hx hb d_Mi_expand_46 rfl (lv_at hl 3 rfl) ?_
          refine lv_iload hx hb d_Mi_expand_47 (lv_at hl 9 rfl) ?_
          refine lv_iadd hx hb d_Mi_expand_49 ?_
          obtain ⟨g_28, h⟩ := ck_in_s h
          refine va_iald hx hb hK hP 5 0 rfl rfl g_28 d_Mi_expand_50 ?_
          refine lv_imul hx hb d_Mi_expand_51 ?_
          refine lv_i2l hx hb d_Mi_expand_52 rfl ?_
          refine lv_topl (fun x_29 ex_29 => ?_)
          replace h := ck_nm_s h ex_29
          refine lv_lstore (lv' := [(13, .long x_29), (12, .int x_21), (0, .ref h_m), (1, .ref h_t), (2, .int place0), (3, .int set0), (4, .long v4_19), (6, .long v6_18), (8, .long v8_17), (10, .int v10_16), (11, .int v11_15)]) hx hb d_Mi_expand_53 hl (by decide) rfl (fun ls hl => ?_)
          refine lv_lload hx hb d_Mi_expand_55 (lv_at hl 6 rfl) ?_
          refine lv_lload hx hb d_Mi_expand_57 (lv_at hl 0 rfl) ?_
          refine lv_aload_n hx hb d_Mi_expand_59 rfl (lv_at hl 2 rfl) ?_
          refine va_get (D := (dC, dI)) (ci := 0) (v := .ref h_m_low) (C := "BasisWalk$Minors") (T := T_Mi) (N := 3) hx hb hts iw3 hown hK hP 0 rfl rfl 0 (by decide) fl2 (fun _ h9 => h9) rfl d_Mi_expand_60 ?_
          refine lv_iload hx hb d_Mi_expand_63 (lv_at hl 1 rfl) ?_
          obtain ⟨g_30, h⟩ := ck_in_s h
          refine va_lald hx hb hK hP 1 1 rfl rfl g_30 d_Mi_expand_65 ?_
          refine lv_lmul hx hb d_Mi_expand_66 ?_
          refine lv_ladd hx hb d_Mi_expand_67 ?_
          refine lv_topl (fun x_31 ex_31 => ?_)
          replace h := ck_nm_s h ex_31
          refine lv_lstore (lv' := [(4, .long x_31), (13, .long x_29), (12, .int x_21), (0, .ref h_m), (1, .ref h_t), (2, .int place0), (3, .int set0), (6, .long v6_18), (8, .long v8_17), (10, .int v10_16), (11, .int v11_15)]) hx hb d_Mi_expand_68 hl (by decide) rfl (fun ls hl => ?_)
          refine lv_lload hx hb d_Mi_expand_70 (lv_at hl 7 rfl) ?_
          refine lv_lload hx hb d_Mi_expand_72 (lv_at hl 1 rfl) ?_
          refine lv_aload_n hx hb d_Mi_expand_74 rfl (lv_at hl 3 rfl) ?_
          refine va_get (D := (dC, dI)) (ci := 0) (v := .ref h_m_middle) (C := "BasisWalk$Minors") (T := T_Mi) (N := 3) hx hb hts iw3 hown hK hP 0 rfl rfl 1 (by decide) fl5 (fun _ h9 => h9) rfl d_Mi_expand_75 ?_
          refine lv_iload hx hb d_Mi_expand_78 (lv_at hl 2 rfl) ?_
          obtain ⟨g_32, h⟩ := ck_in_s h
          refine va_lald hx hb hK hP 2 1 rfl rfl g_32 d_Mi_expand_80 ?_
          refine lv_lmul hx hb d_Mi_expand_81 ?_
          refine lv_ladd hx hb d_Mi_expand_82 ?_
          refine lv_topl (fun x_33 ex_33 => ?_)
          replace h := ck_nm_s h ex_33
          refine lv_lstore (lv' := [(6, .long x_33), (4, .long x_31), (13, .long x_29), (12, .int x_21), (0, .ref h_m), (1, .ref h_t), (2, .int place0), (3, .int set0), (8, .long v8_17), (10, .int v10_16), (11, .int v11_15)]) hx hb d_Mi_expand_83 hl (by decide) rfl (fun ls hl => ?_)
          refine lv_lload hx hb d_Mi_expand_85 (lv_at hl 8 rfl) ?_
          refine lv_lload hx hb d_Mi_expand_87 (lv_at hl 2 rfl) ?_
          refine lv_aload_n hx hb d_Mi_expand_89 rfl (lv_at hl 4 rfl) ?_
          refine va_get (D := (dC, dI)) (ci := 0) (v := .ref h_m_high) (C := "BasisWalk$Minors") (T := T_Mi) (N := 3) hx hb hts iw3 hown hK hP 0 rfl rfl 2 (by decide) fl6 (fun _ h9 => h9) rfl d_Mi_expand_90 ?_
          refine lv_iload hx hb d_Mi_expand_93 (lv_at hl 3 rfl) ?_
          obtain ⟨g_34, h⟩ := ck_in_s h
          refine va_lald hx hb hK hP 3 1 rfl rfl g_34 d_Mi_expand_95 ?_
          refine lv_lmul hx hb d_Mi_expand_96 ?_
          refine lv_ladd hx hb d_Mi_expand_97 ?_
          refine lv_topl (fun x_35 ex_35 => ?_)
          replace h := ck_nm_s h ex_35
          refine lv_lstore (lv' := [(8, .long x_35), (6, .long x_33), (4, .long x_31), (13, .long x_29), (12, .int x_21), (0, .ref h_m), (1, .ref h_t), (2, .int place0), (3, .int set0), (10, .int v10_16), (11, .int v11_15)]) hx hb d_Mi_expand_98 hl (by decide) rfl (fun ls hl => ?_)
          refine lv_iload hx hb d_Mi_expand_100 (lv_at hl 9 rfl) ?_
          refine lv_ineg hx hb d_Mi_expand_102 ?_
          refine lv_topi (fun x_36 ex_36 => ?_)
          replace h := ck_nm_s h ex_36
          refine lv_istore (lv' := [(10, .int x_36), (8, .long x_35), (6, .long x_33), (4, .long x_31), (13, .long x_29), (12, .int x_21), (0, .ref h_m), (1, .ref h_t), (2, .int place0), (3, .int set0), (11, .int v11_15)]) hx hb d_Mi_expand_103 hl (by decide) rfl (fun ls hl => ?_)
          exact J_105 _ _ _ _ h _ _ hP hD hS _ (lv_sub hl [6, 7, 8, 9, 3, 2, 1, 0, 10] rfl)
theorem d_Mi_takeRow_0 : decode prog_2_method_3_code 0 = .ok (.iconst 0, 1) := by decide +kernel
theorem d_Mi_takeRow_1 : decode prog_2_method_3_code 1 = .ok (.istore 5, 2) := by decide +kernel
theorem d_Mi_takeRow_3 : decode prog_2_method_3_code 3 = .ok (.aload_n 3, 1) := by decide +kernel
theorem d_Mi_takeRow_4 : decode prog_2_method_3_code 4 = .ok (.getfield 21, 3) := by decide +kernel
theorem d_Mi_takeRow_7 : decode prog_2_method_3_code 7 = .ok (.iload 4, 2) := by decide +kernel
theorem d_Mi_takeRow_9 : decode prog_2_method_3_code 9 = .ok (.iaload, 1) := by decide +kernel
theorem d_Mi_takeRow_10 : decode prog_2_method_3_code 10 = .ok (.istore 6, 2) := by decide +kernel
theorem d_Mi_takeRow_12 : decode prog_2_method_3_code 12 = .ok (.iload 6, 2) := by decide +kernel
theorem d_Mi_takeRow_14 : decode prog_2_method_3_code 14 = .ok (.aload_n 3, 1) := by decide +kernel
theorem d_Mi_takeRow_15 : decode prog_2_method_3_code 15 = .ok (.getfield 21, 3) := by decide +kernel
theorem d_Mi_takeRow_18 : decode prog_2_method_3_code 18 = .ok (.iload 4, 2) := by decide +kernel
theorem d_Mi_takeRow_20 : decode prog_2_method_3_code 20 = .ok (.iconst 1, 1) := by decide +kernel
theorem d_Mi_takeRow_21 : decode prog_2_method_3_code 21 = .ok (.iadd, 1) := by decide +kernel
theorem d_Mi_takeRow_22 : decode prog_2_method_3_code 22 = .ok (.iaload, 1) := by decide +kernel
theorem d_Mi_takeRow_23 : decode prog_2_method_3_code 23 = .ok (.if_icmp .ge 41, 3) := by decide +kernel
theorem d_Mi_takeRow_26 : decode prog_2_method_3_code 26 = .ok (.aload_n 3, 1) := by decide +kernel
theorem d_Mi_takeRow_27 : decode prog_2_method_3_code 27 = .ok (.getfield 27, 3) := by decide +kernel
theorem d_Mi_takeRow_30 : decode prog_2_method_3_code 30 = .ok (.iload 6, 2) := by decide +kernel
theorem d_Mi_takeRow_32 : decode prog_2_method_3_code 32 = .ok (.iaload, 1) := by decide +kernel
theorem d_Mi_takeRow_33 : decode prog_2_method_3_code 33 = .ok (.istore 7, 2) := by decide +kernel
theorem d_Mi_takeRow_35 : decode prog_2_method_3_code 35 = .ok (.aload_n 0, 1) := by decide +kernel
theorem d_Mi_takeRow_36 : decode prog_2_method_3_code 36 = .ok (.aload_n 1, 1) := by decide +kernel
theorem d_Mi_takeRow_37 : decode prog_2_method_3_code 37 = .ok (.iload_n 2, 1) := by decide +kernel
theorem d_Mi_takeRow_38 : decode prog_2_method_3_code 38 = .ok (.bipush 12, 2) := by decide +kernel
theorem d_Mi_takeRow_40 : decode prog_2_method_3_code 40 = .ok (.imul, 1) := by decide +kernel
theorem d_Mi_takeRow_41 : decode prog_2_method_3_code 41 = .ok (.iload 7, 2) := by decide +kernel
theorem d_Mi_takeRow_43 : decode prog_2_method_3_code 43 = .ok (.invokevirtual 30, 3) := by decide +kernel
theorem d_Mi_takeRow_46 : decode prog_2_method_3_code 46 = .ok (.aload_n 0, 1) := by decide +kernel
theorem d_Mi_takeRow_47 : decode prog_2_method_3_code 47 = .ok (.iload 7, 2) := by decide +kernel
theorem d_Mi_takeRow_49 : decode prog_2_method_3_code 49 = .ok (.invokevirtual 34, 3) := by decide +kernel
theorem d_Mi_takeRow_52 : decode prog_2_method_3_code 52 = .ok (.ifCond .eq 6, 3) := by decide +kernel
theorem d_Mi_takeRow_55 : decode prog_2_method_3_code 55 = .ok (.iconst 1, 1) := by decide +kernel
theorem d_Mi_takeRow_56 : decode prog_2_method_3_code 56 = .ok (.istore 5, 2) := by decide +kernel
theorem d_Mi_takeRow_58 : decode prog_2_method_3_code 58 = .ok (.iinc 6 1, 3) := by decide +kernel
theorem d_Mi_takeRow_61 : decode prog_2_method_3_code 61 = .ok (.goto (-49), 3) := by decide +kernel
theorem d_Mi_takeRow_64 : decode prog_2_method_3_code 64 = .ok (.iload 5, 2) := by decide +kernel
theorem d_Mi_takeRow_66 : decode prog_2_method_3_code 66 = .ok (.ireturn, 1) := by decide +kernel
def f_M_takeRow (m_low_n : Nat) (m_low : Nat → Int64) (m_middle_n : Nat) (m_middle : Nat → Int64) (m_high_n : Nat) (m_high : Nat → Int64) (t_field : Int32) (t_columnCount : Int32) (t_numbers_n : Nat) (t_numbers : Nat → Int32) (o_sets_n : Nat) (o_sets : Nat → Int32) (o_starts_n : Nat) (o_starts : Nat → Int32) (row0 : Int32) (size0 : Int32) : Option (Int32 × (Nat → Int64) × (Nat → Int64) × (Nat → Int64)) :=
  ck_in size0 o_starts_n <| ck_nm (o_starts size0.toNatClampNeg) <| fun x_2 => lo5 (fun k_12 (v6_3 : Int32) (v5_4 : Int32) (w_5 : Nat → Int64) (w_6 : Nat → Int64) (w_7 : Nat → Int64) => ck_in (size0 + 1) o_starts_n <| ck_if ((o_starts (size0 + 1).toNatClampNeg) ≤ v6_3) (ck_z v5_4 <| some (v5_4, w_5, w_6, w_7)) (ck_in v6_3 o_sets_n <| ck_nm (o_sets v6_3.toNatClampNeg) <| fun x_12 => ck_b3 (f_M_expand m_low_n w_5 m_middle_n w_6 m_high_n w_7 t_field t_columnCount t_numbers_n t_numbers (row0 * 12) x_12) <| fun u_13 u_14 u_15 => ck_b1 (f_M_signOf m_low_n u_13 m_middle_n u_14 m_high_n u_15 x_12) <| fun r_17 => ck_jn (fun (v5_19 : Int32) => ck_nm (v6_3 + 1) <| fun x_20 => k_12 x_20 v5_19 u_13 u_14 u_15) <| fun k_58 => ck_if (r_17 = 0) (k_58 v5_4) (k_58 1))) ck_F x_2 0 m_low m_middle m_high
set_option maxHeartbeats 4000000 in
set_option maxRecDepth 100000 in
theorem c_M_takeRow (l : Launch) (dC : Nat → ClassId) (dI : Nat → Nat → Nat) (cI cJ cB cZ cT cN : ClassId) (sz : Nat) (h_m : Nat) (h_t : Nat) (h_o : Nat) (h_m_low : Nat) (h_m_middle : Nat) (h_m_high : Nat) (h_t_numbers : Nat) (h_t_study : Nat) (h_o_sets : Nat) (h_o_starts : Nat) (h_o_nexts : Nat) (m_low_n : Nat) (m_low : Nat → Int64) (m_middle_n : Nat) (m_middle : Nat → Int64) (m_high_n : Nat) (m_high : Nat → Int64) (t_field : Int32) (t_rowCount : Int32) (t_columnCount : Int32) (t_studied : Int32) (t_numbers_n : Nat) (t_numbers : Nat → Int32) (o_columnCount : Int32) (o_sets_n : Nat) (o_sets : Nat → Int32) (o_starts_n : Nat) (o_starts : Nat → Int32) (row0 : Int32) (size0 : Int32) (r : Int32 × (Nat → Int64) × (Nat → Int64) × (Nat → Int64)) (h : f_M_takeRow m_low_n m_low m_middle_n m_middle m_high_n m_high t_field t_columnCount t_numbers_n t_numbers o_sets_n o_sets o_starts_n o_starts row0 size0 = some r) : Met l y_Mi_takeRow w_Mi_takeRow ({ frames := 2, cells := 0, slots := 0, locals := 59 } : Room) (va_Pc [.ref h_m, .ref h_t, .int row0, .ref h_o, .int size0] (fun U => U.heap.size = sz ∧ va_P (dC, dI) cl_all [(h_m, .inr (0, [.ref h_m_low, .ref h_m_middle, .ref h_m_high])), (h_m_low, .inl (cJ, m_low_n, .inr (.inl m_low))), (h_m_middle, .inl (cJ, m_middle_n, .inr (.inl m_middle))), (h_m_high, .inl (cJ, m_high_n, .inr (.inl m_high))), (h_t, .inr (3, [.int t_field, .int t_rowCount, .int t_columnCount, .ref h_t_numbers, .int t_studied, .ref h_t_study])), (h_t_numbers, .inl (cI, t_numbers_n, .inl t_numbers)), (h_o, .inr (1, [.int o_columnCount, .ref h_o_sets, .ref h_o_starts, .ref h_o_nexts])), (h_o_sets, .inl (cI, o_sets_n, .inl o_sets)), (h_o_starts, .inl (cI, o_starts_n, .inl o_starts))] U.heap ∧ va_K (dC, dI) cl_all [(cI, .int), (cJ, .long), (cB, .byte), (cZ, .boolean), (cT, .object "BasisWalk$Table"), (cN, .object "BasisWalkModel$Num")] U ∧ NW U ∧ va_D (fun _ => True) [(h_m, .inr (0, [.ref h_m_low, .ref h_m_middle, .ref h_m_high])), (h_m_low, .inl (cJ, m_low_n, .inr (.inl m_low))), (h_m_middle, .inl (cJ, m_middle_n, .inr (.inl m_middle))), (h_m_high, .inl (cJ, m_high_n, .inr (.inl m_high))), (h_t, .inr (3, [.int t_field, .int t_rowCount, .int t_columnCount, .ref h_t_numbers, .int t_studied, .ref h_t_study])), (h_t_numbers, .inl (cI, t_numbers_n, .inl t_numbers)), (h_o, .inr (1, [.int o_columnCount, .ref h_o_sets, .ref h_o_starts, .ref h_o_nexts])), (h_o_sets, .inl (cI, o_sets_n, .inl o_sets)), (h_o_starts, .inl (cI, o_starts_n, .inl o_starts))])) (va_Qi (fun (v : Int32) (u : (Nat → Int64) × (Nat → Int64) × (Nat → Int64)) => (v, u) = r) (fun (u : (Nat → Int64) × (Nat → Int64) × (Nat → Int64)) (t : State) => va_P (dC, dI) cl_all [(h_m, .inr (0, [.ref h_m_low, .ref h_m_middle, .ref h_m_high])), (h_m_low, .inl (cJ, m_low_n, .inr (.inl u.1))), (h_m_middle, .inl (cJ, m_middle_n, .inr (.inl u.2.1))), (h_m_high, .inl (cJ, m_high_n, .inr (.inl u.2.2))), (h_t, .inr (3, [.int t_field, .int t_rowCount, .int t_columnCount, .ref h_t_numbers, .int t_studied, .ref h_t_study])), (h_t_numbers, .inl (cI, t_numbers_n, .inl t_numbers)), (h_o, .inr (1, [.int o_columnCount, .ref h_o_sets, .ref h_o_starts, .ref h_o_nexts])), (h_o_sets, .inl (cI, o_sets_n, .inl o_sets)), (h_o_starts, .inl (cI, o_starts_n, .inl o_starts))] t.heap ∧ va_K (dC, dI) cl_all [(cI, .int), (cJ, .long), (cB, .byte), (cZ, .boolean), (cT, .object "BasisWalk$Table"), (cN, .object "BasisWalkModel$Num")] t ∧ va_D (va_A [(h_m, .inr (0, [.ref h_m_low, .ref h_m_middle, .ref h_m_high])), (h_m_low, .inl (cJ, m_low_n, .inr (.inl m_low))), (h_m_middle, .inl (cJ, m_middle_n, .inr (.inl m_middle))), (h_m_high, .inl (cJ, m_high_n, .inr (.inl m_high))), (h_t, .inr (3, [.int t_field, .int t_rowCount, .int t_columnCount, .ref h_t_numbers, .int t_studied, .ref h_t_study])), (h_t_numbers, .inl (cI, t_numbers_n, .inl t_numbers)), (h_o, .inr (1, [.int o_columnCount, .ref h_o_sets, .ref h_o_starts, .ref h_o_nexts])), (h_o_sets, .inl (cI, o_sets_n, .inl o_sets)), (h_o_starts, .inl (cI, o_starts_n, .inl o_starts))] sz) [(h_m, .inr (0, [.ref h_m_low, .ref h_m_middle, .ref h_m_high])), (h_m_low, .inl (cJ, m_low_n, .inr (.inl u.1))), (h_m_middle, .inl (cJ, m_middle_n, .inr (.inl u.2.1))), (h_m_high, .inl (cJ, m_high_n, .inr (.inl u.2.2))), (h_t, .inr (3, [.int t_field, .int t_rowCount, .int t_columnCount, .ref h_t_numbers, .int t_studied, .ref h_t_study])), (h_t_numbers, .inl (cI, t_numbers_n, .inl t_numbers)), (h_o, .inr (1, [.int o_columnCount, .ref h_o_sets, .ref h_o_starts, .ref h_o_nexts])), (h_o_sets, .inl (cI, o_sets_n, .inl o_sets)), (h_o_starts, .inl (cI, o_starts_n, .inl o_starts))]) (va_A [(h_m, .inr (0, [.ref h_m_low, .ref h_m_middle, .ref h_m_high])), (h_m_low, .inl (cJ, m_low_n, .inr (.inl m_low))), (h_m_middle, .inl (cJ, m_middle_n, .inr (.inl m_middle))), (h_m_high, .inl (cJ, m_high_n, .inr (.inl m_high))), (h_t, .inr (3, [.int t_field, .int t_rowCount, .int t_columnCount, .ref h_t_numbers, .int t_studied, .ref h_t_study])), (h_t_numbers, .inl (cI, t_numbers_n, .inl t_numbers)), (h_o, .inr (1, [.int o_columnCount, .ref h_o_sets, .ref h_o_starts, .ref h_o_nexts])), (h_o_sets, .inl (cI, o_sets_n, .inl o_sets)), (h_o_starts, .inl (cI, o_starts_n, .inl o_starts))] sz)) 0 0 (va_A [(h_m, .inr (0, [.ref h_m_low, .ref h_m_middle, .ref h_m_high])), (h_m_low, .inl (cJ, m_low_n, .inr (.inl m_low))), (h_m_middle, .inl (cJ, m_middle_n, .inr (.inl m_middle))), (h_m_high, .inl (cJ, m_high_n, .inr (.inl m_high))), (h_t, .inr (3, [.int t_field, .int t_rowCount, .int t_columnCount, .ref h_t_numbers, .int t_studied, .ref h_t_study])), (h_t_numbers, .inl (cI, t_numbers_n, .inl t_numbers)), (h_o, .inr (1, [.int o_columnCount, .ref h_o_sets, .ref h_o_starts, .ref h_o_nexts])), (h_o_sets, .inl (cI, o_sets_n, .inl o_sets)), (h_o_starts, .inl (cI, o_starts_n, .inl o_starts))] sz) := by
  refine Met.ofW (cc := prog_2_method_3_code) (maxL := 8) (ret := (Option.some Jvm.ClassFile.FieldType.boolean)) (by decide) rfl ?_
  intro p e s m args below meth c s₁ B hml hv
  obtain ⟨hAR, hsz, hP, hK, hN, hD0⟩ := hv
  have hx := B.exec
  have hb := B.bytes
  have hr := B.returns
  have hts := atoms_spec (ws := w_Mi_takeRow) B.pre
  have hown : s.vm.findClass "BasisWalk$Minors" = some m.cls := findClass_of_methodNamed B.named
  have hlocks := B.notSynchronized
  clear B
  subst hsz
  have hD := hD0.self (sz := s.heap.size)
  generalize hAe : va_A [(h_m, .inr (0, [.ref h_m_low, .ref h_m_middle, .ref h_m_high])), (h_m_low, .inl (cJ, m_low_n, .inr (.inl m_low))), (h_m_middle, .inl (cJ, m_middle_n, .inr (.inl m_middle))), (h_m_high, .inl (cJ, m_high_n, .inr (.inl m_high))), (h_t, .inr (3, [.int t_field, .int t_rowCount, .int t_columnCount, .ref h_t_numbers, .int t_studied, .ref h_t_study])), (h_t_numbers, .inl (cI, t_numbers_n, .inl t_numbers)), (h_o, .inr (1, [.int o_columnCount, .ref h_o_sets, .ref h_o_starts, .ref h_o_nexts])), (h_o_sets, .inl (cI, o_sets_n, .inl o_sets)), (h_o_starts, .inl (cI, o_starts_n, .inl o_starts))] s.heap.size = A at hD ⊢
  have hA : ∀ q : Nat, s.heap.size ≤ q → A q := fun q h => by rw [← hAe]; exact Or.inr h
  clear hAe hD0
  have hS : va_S A s.heap s.heap [] := va_S.rf
  have hl := lv_entry ([.ref h_m, .ref h_t, .int row0, .ref h_o, .int size0]) (n := 8) (Nat.le_of_ble_eq_true rfl)
  subst hAR
  rw [lg_entry_eq]
  generalize (lg_sl ([.ref h_m, .ref h_t, .int row0, .ref h_o, .int size0]) ++ List.replicate (8 - (lg_sl ([.ref h_m, .ref h_t, .int row0, .ref h_o, .int size0])).length) Slot.unset).toArray = ls at hl ⊢
  have hl : lv_has ls 8 [(0, .ref h_m), (1, .ref h_t), (2, .int row0), (3, .ref h_o), (4, .int size0)] := hl
  change W p l e ({ frames := 2, cells := 0, slots := 0, locals := 59 } : Room) s m _ below meth c s.heap [] 0 0 _ _
  generalize hARe : ([.ref h_m, .ref h_t, .int row0, .ref h_o, .int size0] : List Value).toArray = AR at hts ⊢
  clear hARe
  generalize hQ : MQ below _ AR s 0 0 A = QQ
  have fl0 := va_Nw.use (A := AR) rfl (hN _ tn_97)
  have iw1 := (fun w hw => List.mem_cons_of_mem _ (in_Or w hw) : ∀ w ∈ u_ws "BasisWalk$Order" T_Or 4, w ∈ w_Mi_takeRow)
  have fl2 := va_Nw.use (A := AR) rfl (hN _ tn_94)
  obtain ⟨H, hHe⟩ : ∃ H : Heap, H = s.heap := ⟨_, rfl⟩
  rw [← hHe] at hP ⊢
  replace hS : va_S A s.heap H [] := by rw [hHe]; exact va_S.rf
  clear hHe
  unfold f_M_takeRow at h
  refine lv_iconst (v := 0) hx hb d_Mi_takeRow_0 (by decide) ?_
  refine lv_istore (lv' := [(5, .int 0), (0, .ref h_m), (1, .ref h_t), (2, .int row0), (3, .ref h_o), (4, .int size0)]) hx hb d_Mi_takeRow_1 hl (by decide) rfl (fun ls hl => ?_)
  refine lv_aload_n hx hb d_Mi_takeRow_3 rfl (lv_at hl 4 rfl) ?_
  refine va_getN (D := (dC, dI)) (ci := 1) (v := .ref h_o_starts) (C := "BasisWalk$Order") (T := T_Or) (N := 4) hx hb hts iw1 hown hK hP 6 rfl rfl 2 (by decide) fl0 (fun _ h9 => h9) rfl d_Mi_takeRow_4 ?_
  refine lv_iload hx hb d_Mi_takeRow_7 (lv_at hl 5 rfl) ?_
  obtain ⟨g_1, h⟩ := ck_in_s h
  refine va_iald hx hb hK hP 8 0 rfl rfl g_1 d_Mi_takeRow_9 ?_
  refine lv_topi (fun x_2 ex_2 => ?_)
  replace h := ck_nm_s h ex_2
  refine lv_istore (lv' := [(6, .int x_2), (5, .int 0), (0, .ref h_m), (1, .ref h_t), (2, .int row0), (3, .ref h_o), (4, .int size0)]) hx hb d_Mi_takeRow_10 hl (by decide) rfl (fun ls hl => ?_)
  refine lo5_W (r := r) (fun (v6_3 : Int32) (v5_4 : Int32) (w_5 : Nat → Int64) (w_6 : Nat → Int64) (w_7 : Nat → Int64) => ∀ (H : Heap) (locs : List Loc), va_P (dC, dI) cl_all [(h_m, .inr (0, [.ref h_m_low, .ref h_m_middle, .ref h_m_high])), (h_m_low, .inl (cJ, m_low_n, .inr (.inl w_5))), (h_m_middle, .inl (cJ, m_middle_n, .inr (.inl w_6))), (h_m_high, .inl (cJ, m_high_n, .inr (.inl w_7))), (h_t, .inr (3, [.int t_field, .int t_rowCount, .int t_columnCount, .ref h_t_numbers, .int t_studied, .ref h_t_study])), (h_t_numbers, .inl (cI, t_numbers_n, .inl t_numbers)), (h_o, .inr (1, [.int o_columnCount, .ref h_o_sets, .ref h_o_starts, .ref h_o_nexts])), (h_o_sets, .inl (cI, o_sets_n, .inl o_sets)), (h_o_starts, .inl (cI, o_starts_n, .inl o_starts))] H → va_D A [(h_m, .inr (0, [.ref h_m_low, .ref h_m_middle, .ref h_m_high])), (h_m_low, .inl (cJ, m_low_n, .inr (.inl w_5))), (h_m_middle, .inl (cJ, m_middle_n, .inr (.inl w_6))), (h_m_high, .inl (cJ, m_high_n, .inr (.inl w_7))), (h_t, .inr (3, [.int t_field, .int t_rowCount, .int t_columnCount, .ref h_t_numbers, .int t_studied, .ref h_t_study])), (h_t_numbers, .inl (cI, t_numbers_n, .inl t_numbers)), (h_o, .inr (1, [.int o_columnCount, .ref h_o_sets, .ref h_o_starts, .ref h_o_nexts])), (h_o_sets, .inl (cI, o_sets_n, .inl o_sets)), (h_o_starts, .inl (cI, o_starts_n, .inl o_starts))] → va_S A s.heap H locs → ∀ ls : Array Slot, lv_has ls 8 [(0, .ref h_m), (1, .ref h_t), (2, .int row0), (3, .ref h_o), (4, .int size0), (5, .int v5_4), (6, .int v6_3)] → W p l e ({ frames := 2, cells := 0, slots := 0, locals := 59 } : Room) s m AR below meth c H locs 0 0 QQ (F0 m 12 ls [])) ?_ _ _ _ _ _ _ h _ _ hP hD hS _ (lv_sub hl [2, 3, 4, 5, 6, 1, 0] rfl)
  intro k_12 v6_3 v5_4 w_5 w_6 w_7 J_12 h H locs hP hD hS ls hl
  refine lv_iload hx hb d_Mi_takeRow_12 (lv_at hl 6 rfl) ?_
  refine lv_aload_n hx hb d_Mi_takeRow_14 rfl (lv_at hl 3 rfl) ?_
  refine va_getN (D := (dC, dI)) (ci := 1) (v := .ref h_o_starts) (C := "BasisWalk$Order") (T := T_Or) (N := 4) hx hb hts iw1 hown hK hP 6 rfl rfl 2 (by decide) fl0 (fun _ h9 => h9) rfl d_Mi_takeRow_15 ?_
  refine lv_iload hx hb d_Mi_takeRow_18 (lv_at hl 4 rfl) ?_
  refine lv_iconst (v := 1) hx hb d_Mi_takeRow_20 (by decide) ?_
  refine lv_iadd hx hb d_Mi_takeRow_21 ?_
  obtain ⟨g_8, h⟩ := ck_in_s h
  refine va_iald hx hb hK hP 8 0 rfl rfl g_8 d_Mi_takeRow_22 ?_
  refine lv_icmp_ge (tgt := 64) hx hb d_Mi_takeRow_23 (by decide) (fun c_9 => ?_) (fun c_9 => ?_)
  · replace h := ck_if_t h c_9
    refine lv_iload hx hb d_Mi_takeRow_64 (lv_at hl 5 rfl) ?_
    obtain ⟨g_10, h⟩ := ck_z_s h
    obtain rfl := Option.some.inj h
    subst hQ
    exact W.zret (ty := .boolean) (v := v5_4) hx hb hr g_10.1 (fun t ht hW => ⟨⟨v5_4, (w_5, w_6, w_7), rfl, rfl, by rw [ht]; exact hP, va_K.moved hW.alike hK, hD⟩, hS.F ht⟩) hS.2.2 d_Mi_takeRow_66
  · replace h := ck_if_f h c_9
    refine lv_aload_n hx hb d_Mi_takeRow_26 rfl (lv_at hl 3 rfl) ?_
    refine va_getN (D := (dC, dI)) (ci := 1) (v := .ref h_o_sets) (C := "BasisWalk$Order") (T := T_Or) (N := 4) hx hb hts iw1 hown hK hP 6 rfl rfl 1 (by decide) fl2 (fun _ h9 => h9) rfl d_Mi_takeRow_27 ?_
    refine lv_iload hx hb d_Mi_takeRow_30 (lv_at hl 6 rfl) ?_
    obtain ⟨g_11, h⟩ := ck_in_s h
    refine va_iald hx hb hK hP 7 0 rfl rfl g_11 d_Mi_takeRow_32 ?_
    refine lv_topi (fun x_12 ex_12 => ?_)
    replace h := ck_nm_s h ex_12
    refine lv_istore (lv' := [(7, .int x_12), (0, .ref h_m), (1, .ref h_t), (2, .int row0), (3, .ref h_o), (4, .int size0), (5, .int v5_4), (6, .int v6_3)]) hx hb d_Mi_takeRow_33 hl (by decide) rfl (fun ls hl => ?_)
    refine lv_aload_n hx hb d_Mi_takeRow_35 rfl (lv_at hl 1 rfl) ?_
    refine lv_aload_n hx hb d_Mi_takeRow_36 rfl (lv_at hl 2 rfl) ?_
    refine lv_iload_n hx hb d_Mi_takeRow_37 rfl (lv_at hl 3 rfl) ?_
    refine lv_bipush (v := 12) hx hb d_Mi_takeRow_38 (by decide) ?_
    refine lv_imul hx hb d_Mi_takeRow_40 ?_
    refine lv_iload hx hb d_Mi_takeRow_41 (lv_at hl 0 rfl) ?_
    obtain ⟨u_13, u_14, u_15, hc_16, h⟩ := ck_b3_s h
    have hPc := hP.sub (ws' := [(h_m, .inr (0, [.ref h_m_low, .ref h_m_middle, .ref h_m_high])), (h_m_low, .inl (cJ, m_low_n, .inr (.inl w_5))), (h_m_middle, .inl (cJ, m_middle_n, .inr (.inl w_6))), (h_m_high, .inl (cJ, m_high_n, .inr (.inl w_7))), (h_t, .inr (3, [.int t_field, .int t_rowCount, .int t_columnCount, .ref h_t_numbers, .int t_studied, .ref h_t_study])), (h_t_numbers, .inl (cI, t_numbers_n, .inl t_numbers))]) [0, 1, 2, 3, 4, 5] rfl
    have hDc := hD.sub (ws' := [(h_m, .inr (0, [.ref h_m_low, .ref h_m_middle, .ref h_m_high])), (h_m_low, .inl (cJ, m_low_n, .inr (.inl w_5))), (h_m_middle, .inl (cJ, m_middle_n, .inr (.inl w_6))), (h_m_high, .inl (cJ, m_high_n, .inr (.inl w_7))), (h_t, .inr (3, [.int t_field, .int t_rowCount, .int t_columnCount, .ref h_t_numbers, .int t_studied, .ref h_t_study])), (h_t_numbers, .inl (cI, t_numbers_n, .inl t_numbers))]) [0, 1, 2, 3, 4, 5] (by decide) rfl
    have hFc := va_free (wc := [(h_m, .inr (0, [.ref h_m_low, .ref h_m_middle, .ref h_m_high])), (h_m_low, .inl (cJ, m_low_n, .inr (.inl w_5))), (h_m_middle, .inl (cJ, m_middle_n, .inr (.inl w_6))), (h_m_high, .inl (cJ, m_high_n, .inr (.inl w_7))), (h_t, .inr (3, [.int t_field, .int t_rowCount, .int t_columnCount, .ref h_t_numbers, .int t_studied, .ref h_t_study])), (h_t_numbers, .inl (cI, t_numbers_n, .inl t_numbers))]) hD hS hA [0, 1, 2, 3, 4, 5] rfl
    refine va_callv (va_runV (As := [.ref h_t, .int (row0 * 12), .int x_12]) (rest := []) ⟨hx, hb, hml, hown, hts⟩ (c_M_expand l dC dI cI cJ cB cZ cT cN H.size h_m h_t h_m_low h_m_middle h_m_high h_t_numbers h_t_study m_low_n w_5 m_middle_n w_6 m_high_n w_7 t_field t_rowCount t_columnCount t_studied t_numbers_n t_numbers (row0 * 12) x_12 _ hc_16) (cwV 3 hts (tb_V tw_221 tw_223 tp_4 tw_5 tw_224) rfl rfl rfl (by decide +kernel) ⟨Nat.le_of_ble_eq_true rfl, Nat.le_of_ble_eq_true rfl⟩) ⟨fun a U g mk q => by obtain ⟨q0, q1, qP, qK, qN, qD⟩ := q; exact ⟨q0, q1, qP, va_K.moved (u := U) (U := U.calling g mk a) (Vm.Alike.refl U.vm) qK, qN.same rfl, qD⟩, va_recv hK hPc (ci := 0) (q0 := 0) rfl rfl, fun U hU hW => ⟨rfl, by rw [hU], by rw [hU]; exact hPc, va_K.moved hW.alike hK, hN.warm hW, hDc.weaken (fun _ _ _ _ => trivial)⟩⟩ rfl rfl hl.1 rfl (lv_room (Nat.le_of_ble_eq_true rfl)) d_Mi_takeRow_43 ⟨Nat.zero_le _, Nat.zero_le _⟩) hS (fun q _ h => hFc q h) hFc (fun u t H1 locs ht hvm hw hB hz1 hk1 hS => ?_)
    replace hw := hw.symm
    subst hw
    obtain ⟨hP1, -, hD1⟩ := hB
    rw [ht] at hP1
    obtain ⟨hP, hD⟩ := va_join (wr := [(h_o, .inr (1, [.int o_columnCount, .ref h_o_sets, .ref h_o_starts, .ref h_o_nexts])), (h_o_sets, .inl (cI, o_sets_n, .inl o_sets)), (h_o_starts, .inl (cI, o_starts_n, .inl o_starts))]) (w1 := [(h_m, .inr (0, [.ref h_m_low, .ref h_m_middle, .ref h_m_high])), (h_m_low, .inl (cJ, m_low_n, .inr (.inl u_13))), (h_m_middle, .inl (cJ, m_middle_n, .inr (.inl u_14))), (h_m_high, .inl (cJ, m_high_n, .inr (.inl u_15))), (h_t, .inr (3, [.int t_field, .int t_rowCount, .int t_columnCount, .ref h_t_numbers, .int t_studied, .ref h_t_study])), (h_t_numbers, .inl (cI, t_numbers_n, .inl t_numbers))]) hP hD [0, 1, 2, 3, 4, 5] [6, 7, 8] rfl rfl (by decide) (by decide) hk1 hFc hP1 hD1
    generalize H1 = H at hP hS ⊢
    have hP : va_P (dC, dI) cl_all [(h_m, .inr (0, [.ref h_m_low, .ref h_m_middle, .ref h_m_high])), (h_m_low, .inl (cJ, m_low_n, .inr (.inl u_13))), (h_m_middle, .inl (cJ, m_middle_n, .inr (.inl u_14))), (h_m_high, .inl (cJ, m_high_n, .inr (.inl u_15))), (h_t, .inr (3, [.int t_field, .int t_rowCount, .int t_columnCount, .ref h_t_numbers, .int t_studied, .ref h_t_study])), (h_t_numbers, .inl (cI, t_numbers_n, .inl t_numbers)), (h_o, .inr (1, [.int o_columnCount, .ref h_o_sets, .ref h_o_starts, .ref h_o_nexts])), (h_o_sets, .inl (cI, o_sets_n, .inl o_sets)), (h_o_starts, .inl (cI, o_starts_n, .inl o_starts))] H := hP.sub [3, 4, 5, 6, 7, 8, 0, 1, 2] rfl
    have hD : va_D A [(h_m, .inr (0, [.ref h_m_low, .ref h_m_middle, .ref h_m_high])), (h_m_low, .inl (cJ, m_low_n, .inr (.inl u_13))), (h_m_middle, .inl (cJ, m_middle_n, .inr (.inl u_14))), (h_m_high, .inl (cJ, m_high_n, .inr (.inl u_15))), (h_t, .inr (3, [.int t_field, .int t_rowCount, .int t_columnCount, .ref h_t_numbers, .int t_studied, .ref h_t_study])), (h_t_numbers, .inl (cI, t_numbers_n, .inl t_numbers)), (h_o, .inr (1, [.int o_columnCount, .ref h_o_sets, .ref h_o_starts, .ref h_o_nexts])), (h_o_sets, .inl (cI, o_sets_n, .inl o_sets)), (h_o_starts, .inl (cI, o_starts_n, .inl o_starts))] := hD.sub [3, 4, 5, 6, 7, 8, 0, 1, 2] (by decide) rfl
    refine lv_aload_n hx hb d_Mi_takeRow_46 rfl (lv_at hl 1 rfl) ?_
    refine lv_iload hx hb d_Mi_takeRow_47 (lv_at hl 0 rfl) ?_
    obtain ⟨r_17, hc_18, h⟩ := ck_b1_s h
    have hPc := hP.sub (ws' := [(h_m, .inr (0, [.ref h_m_low, .ref h_m_middle, .ref h_m_high])), (h_m_low, .inl (cJ, m_low_n, .inr (.inl u_13))), (h_m_middle, .inl (cJ, m_middle_n, .inr (.inl u_14))), (h_m_high, .inl (cJ, m_high_n, .inr (.inl u_15)))]) [0, 1, 2, 3] rfl
    have hDc := hD.sub (ws' := [(h_m, .inr (0, [.ref h_m_low, .ref h_m_middle, .ref h_m_high])), (h_m_low, .inl (cJ, m_low_n, .inr (.inl u_13))), (h_m_middle, .inl (cJ, m_middle_n, .inr (.inl u_14))), (h_m_high, .inl (cJ, m_high_n, .inr (.inl u_15)))]) [0, 1, 2, 3] (by decide) rfl
    have hFc := va_free (wc := [(h_m, .inr (0, [.ref h_m_low, .ref h_m_middle, .ref h_m_high])), (h_m_low, .inl (cJ, m_low_n, .inr (.inl u_13))), (h_m_middle, .inl (cJ, m_middle_n, .inr (.inl u_14))), (h_m_high, .inl (cJ, m_high_n, .inr (.inl u_15)))]) hD hS hA [0, 1, 2, 3] rfl
    refine va_calli (va_runV (As := [.int x_12]) (rest := []) ⟨hx, hb, hml, hown, hts⟩ (c_M_signOf l dC dI cI cJ cB cZ cT cN H.size h_m h_m_low h_m_middle h_m_high m_low_n u_13 m_middle_n u_14 m_high_n u_15 x_12 _ hc_18) (cwV 1 hts (tb_V tw_229 tw_230 tw_231 tw_5 tw_232) rfl rfl rfl (by decide +kernel) ⟨Nat.le_of_ble_eq_true rfl, Nat.le_of_ble_eq_true rfl⟩) ⟨fun a U g mk q => by obtain ⟨q0, q1, qP, qK, qN, qD⟩ := q; exact ⟨q0, q1, qP, va_K.moved (u := U) (U := U.calling g mk a) (Vm.Alike.refl U.vm) qK, qN.same rfl, qD⟩, va_recv hK hPc (ci := 0) (q0 := 0) rfl rfl, fun U hU hW => ⟨rfl, by rw [hU], by rw [hU]; exact hPc, va_K.moved hW.alike hK, hN.warm hW, hDc.weaken (fun _ _ _ _ => trivial)⟩⟩ rfl rfl hl.1 rfl (lv_room (Nat.le_of_ble_eq_true rfl)) d_Mi_takeRow_49 ⟨Nat.zero_le _, Nat.zero_le _⟩) hS (fun q _ h => hFc q h) hFc (fun rr u t H1 locs ht hvm hw hB hz1 hk1 hS => ?_)
    replace hw := hw.symm
    subst hw
    obtain ⟨hP1, -, hD1⟩ := hB
    rw [ht] at hP1
    obtain ⟨hP, hD⟩ := va_join (wr := [(h_t, .inr (3, [.int t_field, .int t_rowCount, .int t_columnCount, .ref h_t_numbers, .int t_studied, .ref h_t_study])), (h_t_numbers, .inl (cI, t_numbers_n, .inl t_numbers)), (h_o, .inr (1, [.int o_columnCount, .ref h_o_sets, .ref h_o_starts, .ref h_o_nexts])), (h_o_sets, .inl (cI, o_sets_n, .inl o_sets)), (h_o_starts, .inl (cI, o_starts_n, .inl o_starts))]) (w1 := [(h_m, .inr (0, [.ref h_m_low, .ref h_m_middle, .ref h_m_high])), (h_m_low, .inl (cJ, m_low_n, .inr (.inl u_13))), (h_m_middle, .inl (cJ, m_middle_n, .inr (.inl u_14))), (h_m_high, .inl (cJ, m_high_n, .inr (.inl u_15)))]) hP hD [0, 1, 2, 3] [4, 5, 6, 7, 8] rfl rfl (by decide) (by decide) hk1 hFc hP1 hD1
    generalize H1 = H at hP hS ⊢
    have hP : va_P (dC, dI) cl_all [(h_m, .inr (0, [.ref h_m_low, .ref h_m_middle, .ref h_m_high])), (h_m_low, .inl (cJ, m_low_n, .inr (.inl u_13))), (h_m_middle, .inl (cJ, m_middle_n, .inr (.inl u_14))), (h_m_high, .inl (cJ, m_high_n, .inr (.inl u_15))), (h_t, .inr (3, [.int t_field, .int t_rowCount, .int t_columnCount, .ref h_t_numbers, .int t_studied, .ref h_t_study])), (h_t_numbers, .inl (cI, t_numbers_n, .inl t_numbers)), (h_o, .inr (1, [.int o_columnCount, .ref h_o_sets, .ref h_o_starts, .ref h_o_nexts])), (h_o_sets, .inl (cI, o_sets_n, .inl o_sets)), (h_o_starts, .inl (cI, o_starts_n, .inl o_starts))] H := hP.sub [5, 6, 7, 8, 0, 1, 2, 3, 4] rfl
    have hD : va_D A [(h_m, .inr (0, [.ref h_m_low, .ref h_m_middle, .ref h_m_high])), (h_m_low, .inl (cJ, m_low_n, .inr (.inl u_13))), (h_m_middle, .inl (cJ, m_middle_n, .inr (.inl u_14))), (h_m_high, .inl (cJ, m_high_n, .inr (.inl u_15))), (h_t, .inr (3, [.int t_field, .int t_rowCount, .int t_columnCount, .ref h_t_numbers, .int t_studied, .ref h_t_study])), (h_t_numbers, .inl (cI, t_numbers_n, .inl t_numbers)), (h_o, .inr (1, [.int o_columnCount, .ref h_o_sets, .ref h_o_starts, .ref h_o_nexts])), (h_o_sets, .inl (cI, o_sets_n, .inl o_sets)), (h_o_starts, .inl (cI, o_starts_n, .inl o_starts))] := hD.sub [5, 6, 7, 8, 0, 1, 2, 3, 4] (by decide) rfl
    refine ck_jn_W h (fun k' => ∀ (v5_19 : Int32), k' v5_19 = some r → ∀ (H : Heap) (locs : List Loc), va_P (dC, dI) cl_all [(h_m, .inr (0, [.ref h_m_low, .ref h_m_middle, .ref h_m_high])), (h_m_low, .inl (cJ, m_low_n, .inr (.inl u_13))), (h_m_middle, .inl (cJ, m_middle_n, .inr (.inl u_14))), (h_m_high, .inl (cJ, m_high_n, .inr (.inl u_15))), (h_t, .inr (3, [.int t_field, .int t_rowCount, .int t_columnCount, .ref h_t_numbers, .int t_studied, .ref h_t_study])), (h_t_numbers, .inl (cI, t_numbers_n, .inl t_numbers)), (h_o, .inr (1, [.int o_columnCount, .ref h_o_sets, .ref h_o_starts, .ref h_o_nexts])), (h_o_sets, .inl (cI, o_sets_n, .inl o_sets)), (h_o_starts, .inl (cI, o_starts_n, .inl o_starts))] H → va_D A [(h_m, .inr (0, [.ref h_m_low, .ref h_m_middle, .ref h_m_high])), (h_m_low, .inl (cJ, m_low_n, .inr (.inl u_13))), (h_m_middle, .inl (cJ, m_middle_n, .inr (.inl u_14))), (h_m_high, .inl (cJ, m_high_n, .inr (.inl u_15))), (h_t, .inr (3, [.int t_field, .int t_rowCount, .int t_columnCount, .ref h_t_numbers, .int t_studied, .ref h_t_study])), (h_t_numbers, .inl (cI, t_numbers_n, .inl t_numbers)), (h_o, .inr (1, [.int o_columnCount, .ref h_o_sets, .ref h_o_starts, .ref h_o_nexts])), (h_o_sets, .inl (cI, o_sets_n, .inl o_sets)), (h_o_starts, .inl (cI, o_starts_n, .inl o_starts))] → va_S A s.heap H locs → ∀ ls : Array Slot, lv_has ls 8 [(0, .ref h_m), (1, .ref h_t), (2, .int row0), (3, .ref h_o), (4, .int size0), (5, .int v5_19), (6, .int v6_3)] → W p l e ({ frames := 2, cells := 0, slots := 0, locals := 59 } : Room) s m AR below meth c H locs 0 0 QQ (F0 m 58 ls [])) ?_ ?_
    · intro v5_19 h H locs hP hD hS ls hl
      obtain ⟨x_20, ex_20⟩ : ∃ y : Int32, y = v6_3 + 1 := ⟨_, rfl⟩
      replace h := ck_nm_s h ex_20
      refine lv_iinc (v := x_20) (lv' := [(6, .int x_20), (0, .ref h_m), (1, .ref h_t), (2, .int row0), (3, .ref h_o), (4, .int size0), (5, .int v5_19)]) hx hb d_Mi_takeRow_58 hl (k := 6) rfl (by rw [ex_20]; rfl) (by decide) rfl (fun ls hl => ?_)
      refine lv_goto (tgt := 12) hx hb d_Mi_takeRow_61 (by decide) ?_
      exact J_12 _ _ _ _ _ h _ _ hP hD hS _ (lv_sub hl [1, 2, 3, 4, 5, 6, 0] rfl)
    · intro k_58 J_58 h
      refine lv_if_eq (tgt := 58) hx hb d_Mi_takeRow_52 (by decide) (fun c_21 => ?_) (fun c_21 => ?_)
      · replace h := ck_if_t h c_21
        exact J_58 _ h _ _ hP hD hS _ (lv_sub hl [1, 2, 3, 4, 5, 6, 7] rfl)
      · replace h := ck_if_f h c_21
        refine lv_iconst (v := 1) hx hb d_Mi_takeRow_55 (by decide) ?_
        refine lv_istore (lv' := [(5, .int 1), (7, .int x_12), (0, .ref h_m), (1, .ref h_t), (2, .int row0), (3, .ref h_o), (4, .int size0), (6, .int v6_3)]) hx hb d_Mi_takeRow_56 hl (by decide) rfl (fun ls hl => ?_)
        exact J_58 _ h _ _ hP hD hS _ (lv_sub hl [2, 3, 4, 5, 6, 0, 7] rfl)
