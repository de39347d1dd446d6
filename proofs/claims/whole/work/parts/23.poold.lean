theorem d_Mo_minorOf_0 : decode prog_7_method_12_code 0 = .ok (.iconst 0, 1) := by decide +kernel
theorem d_Mo_minorOf_1 : decode prog_7_method_12_code 1 = .ok (.istore_n 2, 1) := by decide +kernel
theorem d_Mo_minorOf_2 : decode prog_7_method_12_code 2 = .ok (.iconst 0, 1) := by decide +kernel
theorem d_Mo_minorOf_3 : decode prog_7_method_12_code 3 = .ok (.istore_n 3, 1) := by decide +kernel
theorem d_Mo_minorOf_4 : decode prog_7_method_12_code 4 = .ok (.iload_n 3, 1) := by decide +kernel
theorem d_Mo_minorOf_5 : decode prog_7_method_12_code 5 = .ok (.aload_n 0, 1) := by decide +kernel
theorem d_Mo_minorOf_6 : decode prog_7_method_12_code 6 = .ok (.getfield 41, 3) := by decide +kernel
theorem d_Mo_minorOf_9 : decode prog_7_method_12_code 9 = .ok (.if_icmp .ge 28, 3) := by decide +kernel
theorem d_Mo_minorOf_12 : decode prog_7_method_12_code 12 = .ok (.iload_n 1, 1) := by decide +kernel
theorem d_Mo_minorOf_13 : decode prog_7_method_12_code 13 = .ok (.iload_n 3, 1) := by decide +kernel
theorem d_Mo_minorOf_14 : decode prog_7_method_12_code 14 = .ok (.ishr, 1) := by decide +kernel
theorem d_Mo_minorOf_15 : decode prog_7_method_12_code 15 = .ok (.iconst 1, 1) := by decide +kernel
theorem d_Mo_minorOf_16 : decode prog_7_method_12_code 16 = .ok (.iand, 1) := by decide +kernel
theorem d_Mo_minorOf_17 : decode prog_7_method_12_code 17 = .ok (.iconst 1, 1) := by decide +kernel
theorem d_Mo_minorOf_18 : decode prog_7_method_12_code 18 = .ok (.if_icmp .ne 13, 3) := by decide +kernel
theorem d_Mo_minorOf_21 : decode prog_7_method_12_code 21 = .ok (.aload_n 0, 1) := by decide +kernel
theorem d_Mo_minorOf_22 : decode prog_7_method_12_code 22 = .ok (.getfield 117, 3) := by decide +kernel
theorem d_Mo_minorOf_25 : decode prog_7_method_12_code 25 = .ok (.iload_n 2, 1) := by decide +kernel
theorem d_Mo_minorOf_26 : decode prog_7_method_12_code 26 = .ok (.iload_n 3, 1) := by decide +kernel
theorem d_Mo_minorOf_27 : decode prog_7_method_12_code 27 = .ok (.iastore, 1) := by decide +kernel
theorem d_Mo_minorOf_28 : decode prog_7_method_12_code 28 = .ok (.iinc 2 1, 3) := by decide +kernel
theorem d_Mo_minorOf_31 : decode prog_7_method_12_code 31 = .ok (.iinc 3 1, 3) := by decide +kernel
theorem d_Mo_minorOf_34 : decode prog_7_method_12_code 34 = .ok (.goto (-30), 3) := by decide +kernel
theorem d_Mo_minorOf_37 : decode prog_7_method_12_code 37 = .ok (.iconst 0, 1) := by decide +kernel
theorem d_Mo_minorOf_38 : decode prog_7_method_12_code 38 = .ok (.istore_n 3, 1) := by decide +kernel
theorem d_Mo_minorOf_39 : decode prog_7_method_12_code 39 = .ok (.iload_n 3, 1) := by decide +kernel
theorem d_Mo_minorOf_40 : decode prog_7_method_12_code 40 = .ok (.aload_n 0, 1) := by decide +kernel
theorem d_Mo_minorOf_41 : decode prog_7_method_12_code 41 = .ok (.getfield 44, 3) := by decide +kernel
theorem d_Mo_minorOf_44 : decode prog_7_method_12_code 44 = .ok (.if_icmp .ge 16, 3) := by decide +kernel
theorem d_Mo_minorOf_47 : decode prog_7_method_12_code 47 = .ok (.aload_n 0, 1) := by decide +kernel
theorem d_Mo_minorOf_48 : decode prog_7_method_12_code 48 = .ok (.getfield 120, 3) := by decide +kernel
theorem d_Mo_minorOf_51 : decode prog_7_method_12_code 51 = .ok (.iload_n 3, 1) := by decide +kernel
theorem d_Mo_minorOf_52 : decode prog_7_method_12_code 52 = .ok (.iload_n 3, 1) := by decide +kernel
theorem d_Mo_minorOf_53 : decode prog_7_method_12_code 53 = .ok (.iastore, 1) := by decide +kernel
theorem d_Mo_minorOf_54 : decode prog_7_method_12_code 54 = .ok (.iinc 3 1, 3) := by decide +kernel
theorem d_Mo_minorOf_57 : decode prog_7_method_12_code 57 = .ok (.goto (-18), 3) := by decide +kernel
theorem d_Mo_minorOf_60 : decode prog_7_method_12_code 60 = .ok (.iconst 1, 1) := by decide +kernel
theorem d_Mo_minorOf_61 : decode prog_7_method_12_code 61 = .ok (.istore_n 3, 1) := by decide +kernel
theorem d_Mo_minorOf_62 : decode prog_7_method_12_code 62 = .ok (.iconst 0, 1) := by decide +kernel
theorem d_Mo_minorOf_63 : decode prog_7_method_12_code 63 = .ok (.istore 4, 2) := by decide +kernel
theorem d_Mo_minorOf_65 : decode prog_7_method_12_code 65 = .ok (.iload 4, 2) := by decide +kernel
theorem d_Mo_minorOf_67 : decode prog_7_method_12_code 67 = .ok (.aload_n 0, 1) := by decide +kernel
theorem d_Mo_minorOf_68 : decode prog_7_method_12_code 68 = .ok (.getfield 44, 3) := by decide +kernel
theorem d_Mo_minorOf_71 : decode prog_7_method_12_code 71 = .ok (.if_icmp .ge 93, 3) := by decide +kernel
theorem d_Mo_minorOf_74 : decode prog_7_method_12_code 74 = .ok (.iload_n 1, 1) := by decide +kernel
theorem d_Mo_minorOf_75 : decode prog_7_method_12_code 75 = .ok (.aload_n 0, 1) := by decide +kernel
theorem d_Mo_minorOf_76 : decode prog_7_method_12_code 76 = .ok (.getfield 108, 3) := by decide +kernel
theorem d_Mo_minorOf_79 : decode prog_7_method_12_code 79 = .ok (.iload 4, 2) := by decide +kernel
theorem d_Mo_minorOf_81 : decode prog_7_method_12_code 81 = .ok (.iaload, 1) := by decide +kernel
theorem d_Mo_minorOf_82 : decode prog_7_method_12_code 82 = .ok (.ishr, 1) := by decide +kernel
theorem d_Mo_minorOf_83 : decode prog_7_method_12_code 83 = .ok (.iconst 1, 1) := by decide +kernel
theorem d_Mo_minorOf_84 : decode prog_7_method_12_code 84 = .ok (.iand, 1) := by decide +kernel
theorem d_Mo_minorOf_85 : decode prog_7_method_12_code 85 = .ok (.iconst 1, 1) := by decide +kernel
theorem d_Mo_minorOf_86 : decode prog_7_method_12_code 86 = .ok (.if_icmp .ne 72, 3) := by decide +kernel
theorem d_Mo_minorOf_89 : decode prog_7_method_12_code 89 = .ok (.aload_n 0, 1) := by decide +kernel
theorem d_Mo_minorOf_90 : decode prog_7_method_12_code 90 = .ok (.getfield 120, 3) := by decide +kernel
theorem d_Mo_minorOf_93 : decode prog_7_method_12_code 93 = .ok (.iload_n 2, 1) := by decide +kernel
theorem d_Mo_minorOf_94 : decode prog_7_method_12_code 94 = .ok (.iload 4, 2) := by decide +kernel
theorem d_Mo_minorOf_96 : decode prog_7_method_12_code 96 = .ok (.invokestatic 123, 3) := by decide +kernel
theorem d_Mo_minorOf_99 : decode prog_7_method_12_code 99 = .ok (.istore 5, 2) := by decide +kernel
theorem d_Mo_minorOf_101 : decode prog_7_method_12_code 101 = .ok (.aload_n 0, 1) := by decide +kernel
theorem d_Mo_minorOf_102 : decode prog_7_method_12_code 102 = .ok (.getfield 117, 3) := by decide +kernel
theorem d_Mo_minorOf_105 : decode prog_7_method_12_code 105 = .ok (.iload_n 2, 1) := by decide +kernel
theorem d_Mo_minorOf_106 : decode prog_7_method_12_code 106 = .ok (.aload_n 0, 1) := by decide +kernel
theorem d_Mo_minorOf_107 : decode prog_7_method_12_code 107 = .ok (.getfield 108, 3) := by decide +kernel
theorem d_Mo_minorOf_110 : decode prog_7_method_12_code 110 = .ok (.iload 4, 2) := by decide +kernel
theorem d_Mo_minorOf_112 : decode prog_7_method_12_code 112 = .ok (.iaload, 1) := by decide +kernel
theorem d_Mo_minorOf_113 : decode prog_7_method_12_code 113 = .ok (.invokestatic 123, 3) := by decide +kernel
theorem d_Mo_minorOf_116 : decode prog_7_method_12_code 116 = .ok (.istore 6, 2) := by decide +kernel
theorem d_Mo_minorOf_118 : decode prog_7_method_12_code 118 = .ok (.iload 5, 2) := by decide +kernel
theorem d_Mo_minorOf_120 : decode prog_7_method_12_code 120 = .ok (.iload 6, 2) := by decide +kernel
theorem d_Mo_minorOf_122 : decode prog_7_method_12_code 122 = .ok (.iadd, 1) := by decide +kernel
theorem d_Mo_minorOf_123 : decode prog_7_method_12_code 123 = .ok (.iconst 2, 1) := by decide +kernel
theorem d_Mo_minorOf_124 : decode prog_7_method_12_code 124 = .ok (.irem, 1) := by decide +kernel
theorem d_Mo_minorOf_125 : decode prog_7_method_12_code 125 = .ok (.ifCond .ne 7, 3) := by decide +kernel
theorem d_Mo_minorOf_128 : decode prog_7_method_12_code 128 = .ok (.iload_n 3, 1) := by decide +kernel
theorem d_Mo_minorOf_129 : decode prog_7_method_12_code 129 = .ok (.goto 5, 3) := by decide +kernel
theorem d_Mo_minorOf_132 : decode prog_7_method_12_code 132 = .ok (.iload_n 3, 1) := by decide +kernel
theorem d_Mo_minorOf_133 : decode prog_7_method_12_code 133 = .ok (.ineg, 1) := by decide +kernel
theorem d_Mo_minorOf_134 : decode prog_7_method_12_code 134 = .ok (.istore_n 3, 1) := by decide +kernel
theorem d_Mo_minorOf_135 : decode prog_7_method_12_code 135 = .ok (.aload_n 0, 1) := by decide +kernel
theorem d_Mo_minorOf_136 : decode prog_7_method_12_code 136 = .ok (.getfield 120, 3) := by decide +kernel
theorem d_Mo_minorOf_139 : decode prog_7_method_12_code 139 = .ok (.iload_n 2, 1) := by decide +kernel
theorem d_Mo_minorOf_140 : decode prog_7_method_12_code 140 = .ok (.iload 5, 2) := by decide +kernel
theorem d_Mo_minorOf_142 : decode prog_7_method_12_code 142 = .ok (.invokestatic 127, 3) := by decide +kernel
theorem d_Mo_minorOf_145 : decode prog_7_method_12_code 145 = .ok (.aload_n 0, 1) := by decide +kernel
theorem d_Mo_minorOf_146 : decode prog_7_method_12_code 146 = .ok (.getfield 117, 3) := by decide +kernel
theorem d_Mo_minorOf_149 : decode prog_7_method_12_code 149 = .ok (.iload_n 2, 1) := by decide +kernel
theorem d_Mo_minorOf_150 : decode prog_7_method_12_code 150 = .ok (.iload 6, 2) := by decide +kernel
theorem d_Mo_minorOf_152 : decode prog_7_method_12_code 152 = .ok (.invokestatic 127, 3) := by decide +kernel
theorem d_Mo_minorOf_155 : decode prog_7_method_12_code 155 = .ok (.iinc 2 (-1), 3) := by decide +kernel
theorem d_Mo_minorOf_158 : decode prog_7_method_12_code 158 = .ok (.iinc 4 1, 3) := by decide +kernel
theorem d_Mo_minorOf_161 : decode prog_7_method_12_code 161 = .ok (.goto (-96), 3) := by decide +kernel
theorem d_Mo_minorOf_164 : decode prog_7_method_12_code 164 = .ok (.aload_n 0, 1) := by decide +kernel
theorem d_Mo_minorOf_165 : decode prog_7_method_12_code 165 = .ok (.getfield 38, 3) := by decide +kernel
theorem d_Mo_minorOf_168 : decode prog_7_method_12_code 168 = .ok (.ifCond .le 11, 3) := by decide +kernel
theorem d_Mo_minorOf_171 : decode prog_7_method_12_code 171 = .ok (.aload_n 0, 1) := by decide +kernel
theorem d_Mo_minorOf_172 : decode prog_7_method_12_code 172 = .ok (.iload_n 2, 1) := by decide +kernel
theorem d_Mo_minorOf_173 : decode prog_7_method_12_code 173 = .ok (.invokevirtual 131, 3) := by decide +kernel
theorem d_Mo_minorOf_176 : decode prog_7_method_12_code 176 = .ok (.goto 8, 3) := by decide +kernel
theorem d_Mo_minorOf_179 : decode prog_7_method_12_code 179 = .ok (.aload_n 0, 1) := by decide +kernel
theorem d_Mo_minorOf_180 : decode prog_7_method_12_code 180 = .ok (.iload_n 2, 1) := by decide +kernel
theorem d_Mo_minorOf_181 : decode prog_7_method_12_code 181 = .ok (.invokevirtual 134, 3) := by decide +kernel
theorem d_Mo_minorOf_184 : decode prog_7_method_12_code 184 = .ok (.istore 4, 2) := by decide +kernel
theorem d_Mo_minorOf_186 : decode prog_7_method_12_code 186 = .ok (.aload_n 0, 1) := by decide +kernel
theorem d_Mo_minorOf_187 : decode prog_7_method_12_code 187 = .ok (.getfield 38, 3) := by decide +kernel
theorem d_Mo_minorOf_190 : decode prog_7_method_12_code 190 = .ok (.ifCond .le 8, 3) := by decide +kernel
theorem d_Mo_minorOf_193 : decode prog_7_method_12_code 193 = .ok (.iload 4, 2) := by decide +kernel
theorem d_Mo_minorOf_195 : decode prog_7_method_12_code 195 = .ok (.goto 7, 3) := by decide +kernel
theorem d_Mo_minorOf_198 : decode prog_7_method_12_code 198 = .ok (.iload_n 3, 1) := by decide +kernel
theorem d_Mo_minorOf_199 : decode prog_7_method_12_code 199 = .ok (.iload 4, 2) := by decide +kernel
theorem d_Mo_minorOf_201 : decode prog_7_method_12_code 201 = .ok (.imul, 1) := by decide +kernel
theorem d_Mo_minorOf_202 : decode prog_7_method_12_code 202 = .ok (.ireturn, 1) := by decide +kernel
def f_R_minorOf (m_rows : Int32) (m_columns : Int32) (m_prime : Int32) (m_small : Nat → Int32) (m_pivots : Nat → Int32) (m_freeRows : Nat → Int32) (m_freeColumns : Nat → Int32) (m_smallMinor : Nat → Int32) (pn : Nat → Int32) (pm : Nat → Int32) (pd : Nat → Nat → Int32) (set0 : Int32) : Option (Int32 × (Nat → Int32) × (Nat → Int32) × (Nat → Int32) × (Nat → Int32) × (Nat → Int32) × (Nat → Nat → Int32)) :=
  ck_jn (fun (v2_1 : Int32) (w_2 : Nat → Int32) => ck_jn (fun (w_3 : Nat → Int32) => ck_jn (fun (v3_4 : Int32) (v2_5 : Int32) (w_6 : Nat → Int32) (w_7 : Nat → Int32) => ck_jn (fun (s0_8 : Int32) (w_9 : Nat → Int32) (pn_10 : Nat → Int32) (pm_11 : Nat → Int32) (pd_12 : Nat → Nat → Int32) => ck_if (m_prime ≤ 0) (some ((v3_4 * s0_8), w_6, w_7, w_9, pn_10, pm_11, pd_12)) (some (s0_8, w_6, w_7, w_9, pn_10, pm_11, pd_12))) <| fun k_184 => ck_if (m_prime ≤ 0) (ck_b4 (f_R_determinant w_6 w_7 pn pm pd v2_5) <| fun r_15 u_16 u_17 u_18 => k_184 r_15 m_smallMinor u_16 u_17 u_18) (ck_b2 (f_R_smallDet m_prime 36 m_smallMinor 156 m_small 12 w_6 12 w_7 v2_5) <| fun r_20 u_21 => k_184 r_20 u_21 pn pm pd)) <| fun k_164 => lo5 (fun k_65 (v4_23 : Int32) (v3_24 : Int32) (v2_25 : Int32) (w_26 : Nat → Int32) (w_27 : Nat → Int32) => ck_if (m_rows ≤ v4_23) (k_164 v3_24 v2_25 w_26 w_27) (ck_in v4_23 13 <| ck_jn (fun (v2_30 : Int32) (v3_31 : Int32) (w_32 : Nat → Int32) (w_33 : Nat → Int32) => ck_nm (v4_23 + 1) <| fun x_34 => k_65 x_34 v3_31 v2_30 w_32 w_33) <| fun k_158 => ck_if (((set0 >>> ((m_pivots v4_23.toNatClampNeg) &&& 31)) &&& 1) = 1) (ck_b1 (f_R_placeOf 12 w_26 v2_25 v4_23) <| fun r_36 => ck_in v4_23 13 <| ck_b1 (f_R_placeOf 12 w_27 v2_25 (m_pivots v4_23.toNatClampNeg)) <| fun r_39 => ck_jn (fun (s0_41 : Int32) => ck_b1 (f_R_remove 12 w_26 v2_25 r_36) <| fun u_42 => ck_b1 (f_R_remove 12 w_27 v2_25 r_39) <| fun u_44 => ck_nm (v2_25 + (-1)) <| fun x_46 => k_158 x_46 s0_41 u_42 u_44) <| fun k_134 => ck_if (((r_36 + r_39) - (r_36 + r_39) / 2 * 2) = 0) (k_134 v3_24) (k_134 (-v3_24))) (k_158 v2_25 v3_24 w_26 w_27))) ck_F 0 1 v2_1 w_3 w_2) <| fun k_60 => lo2 (fun k_39 (v3_48 : Int32) (w_49 : Nat → Int32) => ck_if (m_rows ≤ v3_48) (k_60 w_49) (ck_in v3_48 12 <| ck_nm (v3_48 + 1) <| fun x_52 => k_39 x_52 (upd w_49 v3_48.toNatClampNeg v3_48))) ck_F 0 m_freeRows) <| fun k_37 => lo3 (fun k_4 (v3_53 : Int32) (v2_54 : Int32) (w_55 : Nat → Int32) => ck_if (m_columns ≤ v3_53) (k_37 v2_54 w_55) (ck_jn (fun (v2_57 : Int32) (w_58 : Nat → Int32) => ck_nm (v3_53 + 1) <| fun x_59 => k_4 x_59 v2_57 w_58) <| fun k_31 => ck_if (((set0 >>> (v3_53 &&& 31)) &&& 1) = 1) (ck_in v2_54 12 <| ck_nm (v2_54 + 1) <| fun x_62 => k_31 x_62 (upd w_55 v2_54.toNatClampNeg v3_53)) (k_31 v2_54 w_55))) ck_F 0 0 m_freeColumns
set_option maxHeartbeats 4000000 in
set_option maxRecDepth 100000 in
theorem c_R_minorOf (l : Launch) (dC : Nat → ClassId) (dI : Nat → Nat → Nat) (cI cJ cB cZ cT cN : ClassId) (sz : Nat) (ha NA ND : Nat → Nat) (m_rows : Int32) (m_columns : Int32) (m_prime : Int32) (m_small : Nat → Int32) (m_pivots : Nat → Int32) (m_freeRows : Nat → Int32) (m_freeColumns : Nat → Int32) (m_smallMinor : Nat → Int32) (m_fields : Nat → Int32) (m_rowCounts : Nat → Int32) (m_elements : Nat → Int32) (m_numbers : Nat → Int32) (m_known : Nat → Int32) (m_ranks : Nat → Int32) (m_rankOf : Nat → Int32) (m_signOf : Nat → Int32) (m_order : Nat → Int32) (m_sizes : Nat → Int32) (m_coefficients : Nat → Int64) (m_choices : Nat → Int64) (m_sorted : Nat → Int32) (pn : Nat → Int32) (pm : Nat → Int32) (pd : Nat → Nat → Int32) (set0 : Int32) (r : Int32 × (Nat → Int32) × (Nat → Int32) × (Nat → Int32) × (Nat → Int32) × (Nat → Int32) × (Nat → Nat → Int32)) (h : f_R_minorOf m_rows m_columns m_prime m_small m_pivots m_freeRows m_freeColumns m_smallMinor pn pm pd set0 = some r) : Met l y_Mo_minorOf w_Mo_minorOf ({ frames := 4, cells := 0, slots := 0, locals := 106 } : Room) (va_Pc [.ref (ha 0), .int set0] (fun U => U.heap.size = sz ∧ va_P (dC, dI) cl_all (xw cI cJ cB cZ cN ha NA m_rows m_columns m_prime m_small m_pivots m_freeRows m_freeColumns m_smallMinor m_fields m_rowCounts m_elements m_numbers m_known m_ranks m_rankOf m_signOf m_order m_sizes m_coefficients m_choices m_sorted ++ po cI NA ND pn pm pd) U.heap ∧ va_K (dC, dI) cl_all [(cI, .int), (cJ, .long), (cB, .byte), (cZ, .boolean), (cT, .object "BasisWalk$Table"), (cN, .object "BasisWalkModel$Num")] U ∧ NW U ∧ va_D (fun _ => True) (xw cI cJ cB cZ cN ha NA m_rows m_columns m_prime m_small m_pivots m_freeRows m_freeColumns m_smallMinor m_fields m_rowCounts m_elements m_numbers m_known m_ranks m_rankOf m_signOf m_order m_sizes m_coefficients m_choices m_sorted ++ po cI NA ND pn pm pd))) (va_Qi (fun (v : Int32) (u : (Nat → Int32) × (Nat → Int32) × (Nat → Int32) × (Nat → Int32) × (Nat → Int32) × (Nat → Nat → Int32)) => (v, u) = r) (fun (u : (Nat → Int32) × (Nat → Int32) × (Nat → Int32) × (Nat → Int32) × (Nat → Int32) × (Nat → Nat → Int32)) (t : State) => va_P (dC, dI) cl_all (xw cI cJ cB cZ cN ha NA m_rows m_columns m_prime m_small m_pivots u.1 u.2.1 u.2.2.1 m_fields m_rowCounts m_elements m_numbers m_known m_ranks m_rankOf m_signOf m_order m_sizes m_coefficients m_choices m_sorted ++ po cI NA ND u.2.2.2.1 u.2.2.2.2.1 u.2.2.2.2.2) t.heap ∧ va_K (dC, dI) cl_all [(cI, .int), (cJ, .long), (cB, .byte), (cZ, .boolean), (cT, .object "BasisWalk$Table"), (cN, .object "BasisWalkModel$Num")] t ∧ va_D (va_A (xw cI cJ cB cZ cN ha NA m_rows m_columns m_prime m_small m_pivots m_freeRows m_freeColumns m_smallMinor m_fields m_rowCounts m_elements m_numbers m_known m_ranks m_rankOf m_signOf m_order m_sizes m_coefficients m_choices m_sorted ++ po cI NA ND pn pm pd) sz) (xw cI cJ cB cZ cN ha NA m_rows m_columns m_prime m_small m_pivots u.1 u.2.1 u.2.2.1 m_fields m_rowCounts m_elements m_numbers m_known m_ranks m_rankOf m_signOf m_order m_sizes m_coefficients m_choices m_sorted ++ po cI NA ND u.2.2.2.1 u.2.2.2.2.1 u.2.2.2.2.2)) (va_A (xw cI cJ cB cZ cN ha NA m_rows m_columns m_prime m_small m_pivots m_freeRows m_freeColumns m_smallMinor m_fields m_rowCounts m_elements m_numbers m_known m_ranks m_rankOf m_signOf m_order m_sizes m_coefficients m_choices m_sorted ++ po cI NA ND pn pm pd) sz)) 0 0 (va_A (xw cI cJ cB cZ cN ha NA m_rows m_columns m_prime m_small m_pivots m_freeRows m_freeColumns m_smallMinor m_fields m_rowCounts m_elements m_numbers m_known m_ranks m_rankOf m_signOf m_order m_sizes m_coefficients m_choices m_sorted ++ po cI NA ND pn pm pd) sz) := by
  refine Met.ofW (cc := prog_7_method_12_code) (maxL := 7) (ret := (Option.some Jvm.ClassFile.FieldType.int)) (by decide) rfl ?_
  intro p e s m args below meth c s₁ B hml hv
  obtain ⟨hAR, hsz, hP, hK, hN, hD0⟩ := hv
  have hx := B.exec
  have hb := B.bytes
  have hr := B.returns
  have hts := atoms_spec (ws := w_Mo_minorOf) B.pre
  have hown : s.vm.findClass "BasisWalkModel" = some m.cls := findClass_of_methodNamed B.named
  have hlocks := B.notSynchronized
  clear B
  subst hsz
  have hD := hD0.self (sz := s.heap.size)
  generalize hAe : va_A (xw cI cJ cB cZ cN ha NA m_rows m_columns m_prime m_small m_pivots m_freeRows m_freeColumns m_smallMinor m_fields m_rowCounts m_elements m_numbers m_known m_ranks m_rankOf m_signOf m_order m_sizes m_coefficients m_choices m_sorted ++ po cI NA ND pn pm pd) s.heap.size = A at hD ⊢
  have hA : ∀ q : Nat, s.heap.size ≤ q → A q := fun q h => by rw [← hAe]; exact Or.inr h
  clear hAe hD0
  have hS : va_S A s.heap s.heap [] := va_S.rf
  have hl := lv_entry ([.ref (ha 0), .int set0]) (n := 7) (Nat.le_of_ble_eq_true rfl)
  subst hAR
  rw [lg_entry_eq]
  generalize (lg_sl ([.ref (ha 0), .int set0]) ++ List.replicate (7 - (lg_sl ([.ref (ha 0), .int set0])).length) Slot.unset).toArray = ls at hl ⊢
  have hl : lv_has ls 7 [(0, .ref (ha 0)), (1, .int set0)] := hl
  change W p l e ({ frames := 4, cells := 0, slots := 0, locals := 106 } : Room) s m _ below meth c s.heap [] 0 0 _ _
  generalize hARe : ([.ref (ha 0), .int set0] : List Value).toArray = AR at hts ⊢
  clear hARe
  generalize hQ : MQ below _ AR s 0 0 A = QQ
  have fl0 := hts _ (List.mem_cons_of_mem _ tw_367)
  have iw1 := (fun w hw => List.mem_cons_of_mem _ (in_Mo w hw) : ∀ w ∈ u_ws "BasisWalkModel" T_Mo 31, w ∈ w_Mo_minorOf)
  have fl2 := hts _ (List.mem_cons_of_mem _ tw_365)
  have fl3 := hts _ (List.mem_cons_of_mem _ tw_368)
  have fl4 := hts _ (List.mem_cons_of_mem _ tw_369)
  have fl5 := hts _ (List.mem_cons_of_mem _ tw_370)
  have fl6 := hts _ (List.mem_cons_of_mem _ tw_366)
  obtain ⟨H, hHe⟩ : ∃ H : Heap, H = s.heap := ⟨_, rfl⟩
  rw [← hHe] at hP ⊢
  replace hS : va_S A s.heap H [] := by rw [hHe]; exact va_S.rf
  clear hHe
  unfold f_R_minorOf at h
  refine lv_iconst (v := 0) hx hb d_Mo_minorOf_0 (by decide) ?_
  refine lv_istore_n (lv' := [(2, .int 0), (0, .ref (ha 0)), (1, .int set0)]) hx hb d_Mo_minorOf_1 rfl hl (by decide) rfl (fun ls hl => ?_)
  refine lv_iconst (v := 0) hx hb d_Mo_minorOf_2 (by decide) ?_
  refine lv_istore_n (lv' := [(3, .int 0), (2, .int 0), (0, .ref (ha 0)), (1, .int set0)]) hx hb d_Mo_minorOf_3 rfl hl (by decide) rfl (fun ls hl => ?_)
  refine ck_jn_W h (fun k' => ∀ (v2_1 : Int32) (w_2 : Nat → Int32), k' v2_1 w_2 = some r → ∀ (H : Heap) (locs : List Loc), va_P (dC, dI) cl_all (xw cI cJ cB cZ cN ha NA m_rows m_columns m_prime m_small m_pivots m_freeRows w_2 m_smallMinor m_fields m_rowCounts m_elements m_numbers m_known m_ranks m_rankOf m_signOf m_order m_sizes m_coefficients m_choices m_sorted ++ po cI NA ND pn pm pd) H → va_D A (xw cI cJ cB cZ cN ha NA m_rows m_columns m_prime m_small m_pivots m_freeRows w_2 m_smallMinor m_fields m_rowCounts m_elements m_numbers m_known m_ranks m_rankOf m_signOf m_order m_sizes m_coefficients m_choices m_sorted ++ po cI NA ND pn pm pd) → va_S A s.heap H locs → ∀ ls : Array Slot, lv_has ls 7 [(0, .ref (ha 0)), (1, .int set0), (2, .int v2_1)] → W p l e ({ frames := 4, cells := 0, slots := 0, locals := 106 } : Room) s m AR below meth c H locs 0 0 QQ (F0 m 37 ls [])) ?_ ?_
  · intro v2_1 w_2 h H locs hP hD hS ls hl
    refine lv_iconst (v := 0) hx hb d_Mo_minorOf_37 (by decide) ?_
    refine lv_istore_n (lv' := [(3, .int 0), (0, .ref (ha 0)), (1, .int set0), (2, .int v2_1)]) hx hb d_Mo_minorOf_38 rfl hl (by decide) rfl (fun ls hl => ?_)
    refine ck_jn_W h (fun k' => ∀ (w_3 : Nat → Int32), k' w_3 = some r → ∀ (H : Heap) (locs : List Loc), va_P (dC, dI) cl_all (xw cI cJ cB cZ cN ha NA m_rows m_columns m_prime m_small m_pivots w_3 w_2 m_smallMinor m_fields m_rowCounts m_elements m_numbers m_known m_ranks m_rankOf m_signOf m_order m_sizes m_coefficients m_choices m_sorted ++ po cI NA ND pn pm pd) H → va_D A (xw cI cJ cB cZ cN ha NA m_rows m_columns m_prime m_small m_pivots w_3 w_2 m_smallMinor m_fields m_rowCounts m_elements m_numbers m_known m_ranks m_rankOf m_signOf m_order m_sizes m_coefficients m_choices m_sorted ++ po cI NA ND pn pm pd) → va_S A s.heap H locs → ∀ ls : Array Slot, lv_has ls 7 [(0, .ref (ha 0)), (1, .int set0), (2, .int v2_1)] → W p l e ({ frames := 4, cells := 0, slots := 0, locals := 106 } : Room) s m AR below meth c H locs 0 0 QQ (F0 m 60 ls [])) ?_ ?_
    · intro w_3 h H locs hP hD hS ls hl
      refine lv_iconst (v := 1) hx hb d_Mo_minorOf_60 (by decide) ?_
      refine lv_istore_n (lv' := [(3, .int 1), (0, .ref (ha 0)), (1, .int set0), (2, .int v2_1)]) hx hb d_Mo_minorOf_61 rfl hl (by decide) rfl (fun ls hl => ?_)
      refine lv_iconst (v := 0) hx hb d_Mo_minorOf_62 (by decide) ?_
      refine lv_istore (lv' := [(4, .int 0), (3, .int 1), (0, .ref (ha 0)), (1, .int set0), (2, .int v2_1)]) hx hb d_Mo_minorOf_63 hl (by decide) rfl (fun ls hl => ?_)
      refine ck_jn_W h (fun k' => ∀ (v3_4 : Int32) (v2_5 : Int32) (w_6 : Nat → Int32) (w_7 : Nat → Int32), k' v3_4 v2_5 w_6 w_7 = some r → ∀ (H : Heap) (locs : List Loc), va_P (dC, dI) cl_all (xw cI cJ cB cZ cN ha NA m_rows m_columns m_prime m_small m_pivots w_6 w_7 m_smallMinor m_fields m_rowCounts m_elements m_numbers m_known m_ranks m_rankOf m_signOf m_order m_sizes m_coefficients m_choices m_sorted ++ po cI NA ND pn pm pd) H → va_D A (xw cI cJ cB cZ cN ha NA m_rows m_columns m_prime m_small m_pivots w_6 w_7 m_smallMinor m_fields m_rowCounts m_elements m_numbers m_known m_ranks m_rankOf m_signOf m_order m_sizes m_coefficients m_choices m_sorted ++ po cI NA ND pn pm pd) → va_S A s.heap H locs → ∀ ls : Array Slot, lv_has ls 7 [(0, .ref (ha 0)), (2, .int v2_5), (3, .int v3_4)] → W p l e ({ frames := 4, cells := 0, slots := 0, locals := 106 } : Room) s m AR below meth c H locs 0 0 QQ (F0 m 164 ls [])) ?_ ?_
      · intro v3_4 v2_5 w_6 w_7 h H locs hP hD hS ls hl
        refine lv_aload_n hx hb d_Mo_minorOf_164 rfl (lv_at hl 0 rfl) ?_
        refine va_get (D := (dC, dI)) (ci := 6) (v := .int m_prime) (C := "BasisWalkModel") (T := T_Mo) (N := 31) hx hb hts iw1 hown hK hP 0 rfl rfl 12 (by decide) fl0 (fun _ h9 => h9) rfl d_Mo_minorOf_165 ?_
        refine ck_jn_W h (fun k' => ∀ (s0_8 : Int32) (w_9 : Nat → Int32) (pn_10 : Nat → Int32) (pm_11 : Nat → Int32) (pd_12 : Nat → Nat → Int32), k' s0_8 w_9 pn_10 pm_11 pd_12 = some r → ∀ (H : Heap) (locs : List Loc), va_P (dC, dI) cl_all (xw cI cJ cB cZ cN ha NA m_rows m_columns m_prime m_small m_pivots w_6 w_7 w_9 m_fields m_rowCounts m_elements m_numbers m_known m_ranks m_rankOf m_signOf m_order m_sizes m_coefficients m_choices m_sorted ++ po cI NA ND pn_10 pm_11 pd_12) H → va_D A (xw cI cJ cB cZ cN ha NA m_rows m_columns m_prime m_small m_pivots w_6 w_7 w_9 m_fields m_rowCounts m_elements m_numbers m_known m_ranks m_rankOf m_signOf m_order m_sizes m_coefficients m_choices m_sorted ++ po cI NA ND pn_10 pm_11 pd_12) → va_S A s.heap H locs → ∀ ls : Array Slot, lv_has ls 7 [(0, .ref (ha 0)), (3, .int v3_4)] → W p l e ({ frames := 4, cells := 0, slots := 0, locals := 106 } : Room) s m AR below meth c H locs 0 0 QQ (F0 m 184 ls [.int s0_8])) ?_ ?_
        · intro s0_8 w_9 pn_10 pm_11 pd_12 h H locs hP hD hS ls hl
          refine lv_istore (lv' := [(4, .int s0_8), (0, .ref (ha 0)), (3, .int v3_4)]) hx hb d_Mo_minorOf_184 hl (by decide) rfl (fun ls hl => ?_)
          refine lv_aload_n hx hb d_Mo_minorOf_186 rfl (lv_at hl 1 rfl) ?_
          refine va_get (D := (dC, dI)) (ci := 6) (v := .int m_prime) (C := "BasisWalkModel") (T := T_Mo) (N := 31) hx hb hts iw1 hown hK hP 0 rfl rfl 12 (by decide) fl0 (fun _ h9 => h9) rfl d_Mo_minorOf_187 ?_
          refine lv_if_le (tgt := 198) hx hb d_Mo_minorOf_190 (by decide) (fun c_13 => ?_) (fun c_13 => ?_)
          · replace h := ck_if_t h c_13
            refine lv_iload_n hx hb d_Mo_minorOf_198 rfl (lv_at hl 2 rfl) ?_
            refine lv_iload hx hb d_Mo_minorOf_199 (lv_at hl 0 rfl) ?_
            refine lv_imul hx hb d_Mo_minorOf_201 ?_
            obtain rfl := Option.some.inj h
            subst hQ
            exact W.iret (v := (v3_4 * s0_8)) hx hb hr (fun t ht hW => ⟨⟨(v3_4 * s0_8), (w_6, w_7, w_9, pn_10, pm_11, pd_12), rfl, rfl, by rw [ht]; exact hP, va_K.moved hW.alike hK, hD⟩, hS.F ht⟩) hS.2.2 d_Mo_minorOf_202
          · replace h := ck_if_f h c_13
            refine lv_iload hx hb d_Mo_minorOf_193 (lv_at hl 0 rfl) ?_
            refine lv_goto (tgt := 202) hx hb d_Mo_minorOf_195 (by decide) ?_
            obtain rfl := Option.some.inj h
            subst hQ
            exact W.iret (v := s0_8) hx hb hr (fun t ht hW => ⟨⟨s0_8, (w_6, w_7, w_9, pn_10, pm_11, pd_12), rfl, rfl, by rw [ht]; exact hP, va_K.moved hW.alike hK, hD⟩, hS.F ht⟩) hS.2.2 d_Mo_minorOf_202
        · intro k_184 J_184 h
          refine lv_if_le (tgt := 179) hx hb d_Mo_minorOf_168 (by decide) (fun c_14 => ?_) (fun c_14 => ?_)
          · replace h := ck_if_t h c_14
            refine lv_aload_n hx hb d_Mo_minorOf_179 rfl (lv_at hl 0 rfl) ?_
            refine lv_iload_n hx hb d_Mo_minorOf_180 rfl (lv_at hl 1 rfl) ?_
            obtain ⟨r_15, u_16, u_17, u_18, hc_19, h⟩ := ck_b4_s h
            have hPc := hP
            have hDc := hD
            have hFc := pw_free hDc hS hA
            refine va_calli (va_runV (As := [.int v2_5]) (rest := []) ⟨hx, hb, hml, hown, hts⟩ (c_R_determinant l dC dI cI cJ cB cZ cT cN H.size ha NA ND m_rows m_columns m_prime m_small m_pivots w_6 w_7 m_smallMinor m_fields m_rowCounts m_elements m_numbers m_known m_ranks m_rankOf m_signOf m_order m_sizes m_coefficients m_choices m_sorted pn pm pd v2_5 _ hc_19) (cwV 1 hts (tb_V tw_590 tw_592 tp_33 tw_6 tw_593) rfl rfl rfl (by decide +kernel) ⟨Nat.le_of_ble_eq_true rfl, Nat.le_of_ble_eq_true rfl⟩) ⟨fun a U g mk q => by obtain ⟨q0, q1, qP, qK, qN, qD⟩ := q; exact ⟨q0, q1, qP, va_K.moved (u := U) (U := U.calling g mk a) (Vm.Alike.refl U.vm) qK, qN.same rfl, qD⟩, va_recv hK hPc (ci := 6) (q0 := 0) rfl rfl, fun U hU hW => ⟨rfl, by rw [hU], by rw [hU]; exact hPc, va_K.moved hW.alike hK, hN.warm hW, hDc.weaken (fun _ _ _ _ => trivial)⟩⟩ rfl rfl hl.1 rfl (lv_room (Nat.le_of_ble_eq_true rfl)) d_Mo_minorOf_181 ⟨Nat.zero_le _, Nat.zero_le _⟩) hS (fun q _ h => hFc q h) hFc (fun rr u t H1 locs ht hvm hw hB hz1 hk1 hS => ?_)
            obtain ⟨e1, e2⟩ := Prod.mk.inj hw
            replace e1 := e1.symm
            replace e2 := e2.symm
            subst e1
            subst e2
            obtain ⟨hP1, -, hD1⟩ := hB
            rw [ht] at hP1
            have hP : va_P (dC, dI) cl_all (xw cI cJ cB cZ cN ha NA m_rows m_columns m_prime m_small m_pivots w_6 w_7 m_smallMinor m_fields m_rowCounts m_elements m_numbers m_known m_ranks m_rankOf m_signOf m_order m_sizes m_coefficients m_choices m_sorted ++ po cI NA ND u_16 u_17 u_18) H1 := hP1
            have hD : va_D A (xw cI cJ cB cZ cN ha NA m_rows m_columns m_prime m_small m_pivots w_6 w_7 m_smallMinor m_fields m_rowCounts m_elements m_numbers m_known m_ranks m_rankOf m_signOf m_order m_sizes m_coefficients m_choices m_sorted ++ po cI NA ND u_16 u_17 u_18) := hD1.weaken (fun _ _ _ h => hFc _ h)
            generalize H1 = H at hP hS ⊢
            have hP : va_P (dC, dI) cl_all (xw cI cJ cB cZ cN ha NA m_rows m_columns m_prime m_small m_pivots w_6 w_7 m_smallMinor m_fields m_rowCounts m_elements m_numbers m_known m_ranks m_rankOf m_signOf m_order m_sizes m_coefficients m_choices m_sorted ++ po cI NA ND u_16 u_17 u_18) H := hP
            have hD : va_D A (xw cI cJ cB cZ cN ha NA m_rows m_columns m_prime m_small m_pivots w_6 w_7 m_smallMinor m_fields m_rowCounts m_elements m_numbers m_known m_ranks m_rankOf m_signOf m_order m_sizes m_coefficients m_choices m_sorted ++ po cI NA ND u_16 u_17 u_18) := hD
            exact J_184 _ _ _ _ _ h _ _ hP hD hS _ (lv_sub hl [0, 2] rfl)
          · replace h := ck_if_f h c_14
            refine lv_aload_n hx hb d_Mo_minorOf_171 rfl (lv_at hl 0 rfl) ?_
            refine lv_iload_n hx hb d_Mo_minorOf_172 rfl (lv_at hl 1 rfl) ?_
            obtain ⟨r_20, u_21, hc_22, h⟩ := ck_b2_s h
            have hPc := hP.sub (ws' := [((ha 0), .inr (6, [.ref (NA 192), .ref (NA 193), .ref (NA 194), .ref (NA 195), .ref (NA 196), .ref (NA 197), .ref (NA 198), .ref (NA 199), .ref (ha 1), .ref (ha 2), .int m_rows, .int m_columns, .int m_prime, .ref (ha 3), .ref (ha 4), .ref (ha 5), .ref (ha 6), .ref (ha 7), .ref (ha 8), .ref (ha 9), .ref (ha 10), .ref (ha 11), .ref (ha 12), .ref (ha 13), .ref (ha 14), .ref (ha 15), .ref (ha 16), .ref (ha 17), .ref (ha 18), .ref (ha 19), .ref (ha 20)])), ((ha 7), .inl (cI, 36, .inl m_smallMinor)), ((ha 2), .inl (cI, 156, .inl m_small)), ((ha 4), .inl (cI, 12, .inl w_6)), ((ha 5), .inl (cI, 12, .inl w_7))]) [0, 7, 2, 4, 5] rfl
            have hDc := hD.sub (ws' := [((ha 0), .inr (6, [.ref (NA 192), .ref (NA 193), .ref (NA 194), .ref (NA 195), .ref (NA 196), .ref (NA 197), .ref (NA 198), .ref (NA 199), .ref (ha 1), .ref (ha 2), .int m_rows, .int m_columns, .int m_prime, .ref (ha 3), .ref (ha 4), .ref (ha 5), .ref (ha 6), .ref (ha 7), .ref (ha 8), .ref (ha 9), .ref (ha 10), .ref (ha 11), .ref (ha 12), .ref (ha 13), .ref (ha 14), .ref (ha 15), .ref (ha 16), .ref (ha 17), .ref (ha 18), .ref (ha 19), .ref (ha 20)])), ((ha 7), .inl (cI, 36, .inl m_smallMinor)), ((ha 2), .inl (cI, 156, .inl m_small)), ((ha 4), .inl (cI, 12, .inl w_6)), ((ha 5), .inl (cI, 12, .inl w_7))]) [0, 7, 2, 4, 5] (by decide) rfl
            have hFc := va_free (wc := [((ha 0), .inr (6, [.ref (NA 192), .ref (NA 193), .ref (NA 194), .ref (NA 195), .ref (NA 196), .ref (NA 197), .ref (NA 198), .ref (NA 199), .ref (ha 1), .ref (ha 2), .int m_rows, .int m_columns, .int m_prime, .ref (ha 3), .ref (ha 4), .ref (ha 5), .ref (ha 6), .ref (ha 7), .ref (ha 8), .ref (ha 9), .ref (ha 10), .ref (ha 11), .ref (ha 12), .ref (ha 13), .ref (ha 14), .ref (ha 15), .ref (ha 16), .ref (ha 17), .ref (ha 18), .ref (ha 19), .ref (ha 20)])), ((ha 7), .inl (cI, 36, .inl m_smallMinor)), ((ha 2), .inl (cI, 156, .inl m_small)), ((ha 4), .inl (cI, 12, .inl w_6)), ((ha 5), .inl (cI, 12, .inl w_7))]) hD hS hA [0, 7, 2, 4, 5] rfl
            refine va_calli (va_runV (As := [.int v2_5]) (rest := []) ⟨hx, hb, hml, hown, hts⟩ (c_R_smallDet l dC dI cI cJ cB cZ cT cN H.size (ha 0) (NA 192) (NA 193) (NA 194) (NA 195) (NA 196) (NA 197) (NA 198) (NA 199) (ha 1) (ha 2) (ha 3) (ha 4) (ha 5) (ha 6) (ha 7) (ha 8) (ha 9) (ha 10) (ha 11) (ha 12) (ha 13) (ha 14) (ha 15) (ha 16) (ha 17) (ha 18) (ha 19) (ha 20) m_rows m_columns m_prime 36 m_smallMinor 156 m_small 12 w_6 12 w_7 v2_5 _ hc_22) (cwV 1 hts (tb_V tw_586 tw_588 tp_32 tw_6 tw_589) rfl rfl rfl (by decide +kernel) ⟨Nat.le_of_ble_eq_true rfl, Nat.le_of_ble_eq_true rfl⟩) ⟨fun a U g mk q => by obtain ⟨q0, q1, qP, qK, qN, qD⟩ := q; exact ⟨q0, q1, qP, va_K.moved (u := U) (U := U.calling g mk a) (Vm.Alike.refl U.vm) qK, qN.same rfl, qD⟩, va_recv hK hPc (ci := 6) (q0 := 0) rfl rfl, fun U hU hW => ⟨rfl, by rw [hU], by rw [hU]; exact hPc, va_K.moved hW.alike hK, hN.warm hW, hDc.weaken (fun _ _ _ _ => trivial)⟩⟩ rfl rfl hl.1 rfl (lv_room (Nat.le_of_ble_eq_true rfl)) d_Mo_minorOf_173 ⟨Nat.zero_le _, Nat.zero_le _⟩) hS (fun q _ h => hFc q h) hFc (fun rr u t H1 locs ht hvm hw hB hz1 hk1 hS => ?_)
            obtain ⟨e1, e2⟩ := Prod.mk.inj hw
            replace e1 := e1.symm
            replace e2 := e2.symm
            subst e1
            subst e2
            obtain ⟨hP1, -, hD1⟩ := hB
            rw [ht] at hP1
            obtain ⟨hP, hD⟩ := pw_back (ws' := (xw cI cJ cB cZ cN ha NA m_rows m_columns m_prime m_small m_pivots w_6 w_7 u_21 m_fields m_rowCounts m_elements m_numbers m_known m_ranks m_rankOf m_signOf m_order m_sizes m_coefficients m_choices m_sorted ++ po cI NA ND pn pm pd)) (w1 := [((ha 0), .inr (6, [.ref (NA 192), .ref (NA 193), .ref (NA 194), .ref (NA 195), .ref (NA 196), .ref (NA 197), .ref (NA 198), .ref (NA 199), .ref (ha 1), .ref (ha 2), .int m_rows, .int m_columns, .int m_prime, .ref (ha 3), .ref (ha 4), .ref (ha 5), .ref (ha 6), .ref (ha 7), .ref (ha 8), .ref (ha 9), .ref (ha 10), .ref (ha 11), .ref (ha 12), .ref (ha 13), .ref (ha 14), .ref (ha 15), .ref (ha 16), .ref (ha 17), .ref (ha 18), .ref (ha 19), .ref (ha 20)])), ((ha 7), .inl (cI, 36, .inl u_21)), ((ha 2), .inl (cI, 156, .inl m_small)), ((ha 4), .inl (cI, 12, .inl w_6)), ((ha 5), .inl (cI, 12, .inl w_7))]) hP hD hk1 hP1 (fun k => match k with | 0 => rfl | 1 => rfl | 2 => rfl | 3 => rfl | 4 => rfl | 5 => rfl | 6 => rfl | 7 => rfl | 8 => rfl | 9 => rfl | 10 => rfl | 11 => rfl | 12 => rfl | 13 => rfl | 14 => rfl | 15 => rfl | 16 => rfl | 17 => rfl | 18 => rfl | 19 => rfl | 20 => rfl | q + 21 => rfl) (fun k q hq => match k, hq with | 0, hq => Or.inl ⟨0, hq⟩ | 1, hq => Or.inr ⟨hq, pw_off (k := 1) hD [0, 7, 2, 4, 5] rfl hq (by decide)⟩ | 2, hq => Or.inl ⟨2, hq⟩ | 3, hq => Or.inr ⟨hq, pw_off (k := 3) hD [0, 7, 2, 4, 5] rfl hq (by decide)⟩ | 4, hq => Or.inl ⟨3, hq⟩ | 5, hq => Or.inl ⟨4, hq⟩ | 6, hq => Or.inr ⟨hq, pw_off (k := 6) hD [0, 7, 2, 4, 5] rfl hq (by decide)⟩ | 7, hq => Or.inl ⟨1, hq⟩ | 8, hq => Or.inr ⟨hq, pw_off (k := 8) hD [0, 7, 2, 4, 5] rfl hq (by decide)⟩ | 9, hq => Or.inr ⟨hq, pw_off (k := 9) hD [0, 7, 2, 4, 5] rfl hq (by decide)⟩ | 10, hq => Or.inr ⟨hq, pw_off (k := 10) hD [0, 7, 2, 4, 5] rfl hq (by decide)⟩ | 11, hq => Or.inr ⟨hq, pw_off (k := 11) hD [0, 7, 2, 4, 5] rfl hq (by decide)⟩ | 12, hq => Or.inr ⟨hq, pw_off (k := 12) hD [0, 7, 2, 4, 5] rfl hq (by decide)⟩ | 13, hq => Or.inr ⟨hq, pw_off (k := 13) hD [0, 7, 2, 4, 5] rfl hq (by decide)⟩ | 14, hq => Or.inr ⟨hq, pw_off (k := 14) hD [0, 7, 2, 4, 5] rfl hq (by decide)⟩ | 15, hq => Or.inr ⟨hq, pw_off (k := 15) hD [0, 7, 2, 4, 5] rfl hq (by decide)⟩ | 16, hq => Or.inr ⟨hq, pw_off (k := 16) hD [0, 7, 2, 4, 5] rfl hq (by decide)⟩ | 17, hq => Or.inr ⟨hq, pw_off (k := 17) hD [0, 7, 2, 4, 5] rfl hq (by decide)⟩ | 18, hq => Or.inr ⟨hq, pw_off (k := 18) hD [0, 7, 2, 4, 5] rfl hq (by decide)⟩ | 19, hq => Or.inr ⟨hq, pw_off (k := 19) hD [0, 7, 2, 4, 5] rfl hq (by decide)⟩ | 20, hq => Or.inr ⟨hq, pw_off (k := 20) hD [0, 7, 2, 4, 5] rfl hq (by decide)⟩ | q + 21, hq => Or.inr ⟨hq, pw_off (k := q + 21) hD [0, 7, 2, 4, 5] rfl hq (by simp only [List.mem_cons, List.not_mem_nil, or_false, not_or]; omega)⟩)
            generalize H1 = H at hP hS ⊢
            have hP : va_P (dC, dI) cl_all (xw cI cJ cB cZ cN ha NA m_rows m_columns m_prime m_small m_pivots w_6 w_7 u_21 m_fields m_rowCounts m_elements m_numbers m_known m_ranks m_rankOf m_signOf m_order m_sizes m_coefficients m_choices m_sorted ++ po cI NA ND pn pm pd) H := hP
            have hD : va_D A (xw cI cJ cB cZ cN ha NA m_rows m_columns m_prime m_small m_pivots w_6 w_7 u_21 m_fields m_rowCounts m_elements m_numbers m_known m_ranks m_rankOf m_signOf m_order m_sizes m_coefficients m_choices m_sorted ++ po cI NA ND pn pm pd) := hD
            refine lv_goto (tgt := 184) hx hb d_Mo_minorOf_176 (by decide) ?_
            exact J_184 _ _ _ _ _ h _ _ hP hD hS _ (lv_sub hl [0, 2] rfl)
      · intro k_164 J_164 h
        refine lo5_W (r := r) (fun (v4_23 : Int32) (v3_24 : Int32) (v2_25 : Int32) (w_26 : Nat → Int32) (w_27 : Nat → Int32) => ∀ (H : Heap) (locs : List Loc), va_P (dC, dI) cl_all (xw cI cJ cB cZ cN ha NA m_rows m_columns m_prime m_small m_pivots w_26 w_27 m_smallMinor m_fields m_rowCounts m_elements m_numbers m_known m_ranks m_rankOf m_signOf m_order m_sizes m_coefficients m_choices m_sorted ++ po cI NA ND pn pm pd) H → va_D A (xw cI cJ cB cZ cN ha NA m_rows m_columns m_prime m_small m_pivots w_26 w_27 m_smallMinor m_fields m_rowCounts m_elements m_numbers m_known m_ranks m_rankOf m_signOf m_order m_sizes m_coefficients m_choices m_sorted ++ po cI NA ND pn pm pd) → va_S A s.heap H locs → ∀ ls : Array Slot, lv_has ls 7 [(0, .ref (ha 0)), (1, .int set0), (2, .int v2_25), (3, .int v3_24), (4, .int v4_23)] → W p l e ({ frames := 4, cells := 0, slots := 0, locals := 106 } : Room) s m AR below meth c H locs 0 0 QQ (F0 m 65 ls [])) ?_ _ _ _ _ _ _ h _ _ hP hD hS _ (lv_sub hl [2, 3, 4, 1, 0] rfl)
        intro k_65 v4_23 v3_24 v2_25 w_26 w_27 J_65 h H locs hP hD hS ls hl
        refine lv_iload hx hb d_Mo_minorOf_65 (lv_at hl 4 rfl) ?_
        refine lv_aload_n hx hb d_Mo_minorOf_67 rfl (lv_at hl 0 rfl) ?_
        refine va_get (D := (dC, dI)) (ci := 6) (v := .int m_rows) (C := "BasisWalkModel") (T := T_Mo) (N := 31) hx hb hts iw1 hown hK hP 0 rfl rfl 10 (by decide) fl2 (fun _ h9 => h9) rfl d_Mo_minorOf_68 ?_
        refine lv_icmp_ge (tgt := 164) hx hb d_Mo_minorOf_71 (by decide) (fun c_28 => ?_) (fun c_28 => ?_)
        · replace h := ck_if_t h c_28
          exact J_164 _ _ _ _ h _ _ hP hD hS _ (lv_sub hl [0, 2, 3] rfl)
        · replace h := ck_if_f h c_28
          refine lv_iload_n hx hb d_Mo_minorOf_74 rfl (lv_at hl 1 rfl) ?_
          refine lv_aload_n hx hb d_Mo_minorOf_75 rfl (lv_at hl 0 rfl) ?_
          refine va_get (D := (dC, dI)) (ci := 6) (v := .ref (ha 3)) (C := "BasisWalkModel") (T := T_Mo) (N := 31) hx hb hts iw1 hown hK hP 0 rfl rfl 13 (by decide) fl3 (fun _ h9 => h9) rfl d_Mo_minorOf_76 ?_
          refine lv_iload hx hb d_Mo_minorOf_79 (lv_at hl 4 rfl) ?_
          obtain ⟨g_29, h⟩ := ck_in_s h
          refine va_iald hx hb hK hP 3 0 rfl rfl g_29 d_Mo_minorOf_81 ?_
          refine lv_ishr hx hb d_Mo_minorOf_82 ?_
          refine lv_iconst (v := 1) hx hb d_Mo_minorOf_83 (by decide) ?_
          refine lv_iand hx hb d_Mo_minorOf_84 ?_
          refine lv_iconst (v := 1) hx hb d_Mo_minorOf_85 (by decide) ?_
          refine ck_jn_W h (fun k' => ∀ (v2_30 : Int32) (v3_31 : Int32) (w_32 : Nat → Int32) (w_33 : Nat → Int32), k' v2_30 v3_31 w_32 w_33 = some r → ∀ (H : Heap) (locs : List Loc), va_P (dC, dI) cl_all (xw cI cJ cB cZ cN ha NA m_rows m_columns m_prime m_small m_pivots w_32 w_33 m_smallMinor m_fields m_rowCounts m_elements m_numbers m_known m_ranks m_rankOf m_signOf m_order m_sizes m_coefficients m_choices m_sorted ++ po cI NA ND pn pm pd) H → va_D A (xw cI cJ cB cZ cN ha NA m_rows m_columns m_prime m_small m_pivots w_32 w_33 m_smallMinor m_fields m_rowCounts m_elements m_numbers m_known m_ranks m_rankOf m_signOf m_order m_sizes m_coefficients m_choices m_sorted ++ po cI NA ND pn pm pd) → va_S A s.heap H locs → ∀ ls : Array Slot, lv_has ls 7 [(0, .ref (ha 0)), (1, .int set0), (2, .int v2_30), (3, .int v3_31), (4, .int v4_23)] → W p l e ({ frames := 4, cells := 0, slots := 0, locals := 106 } : Room) s m AR below meth c H locs 0 0 QQ (F0 m 158 ls [])) ?_ ?_
          · intro v2_30 v3_31 w_32 w_33 h H locs hP hD hS ls hl
            obtain ⟨x_34, ex_34⟩ : ∃ y : Int32, y = v4_23 + 1 := ⟨_, rfl⟩
            replace h := ck_nm_s h ex_34
            refine lv_iinc (v := x_34) (lv' := [(4, .int x_34), (0, .ref (ha 0)), (1, .int set0), (2, .int v2_30), (3, .int v3_31)]) hx hb d_Mo_minorOf_158 hl (k := 4) rfl (by rw [ex_34]; rfl) (by decide) rfl (fun ls hl => ?_)
            refine lv_goto (tgt := 65) hx hb d_Mo_minorOf_161 (by decide) ?_
            exact J_65 _ _ _ _ _ h _ _ hP hD hS _ (lv_sub hl [1, 2, 3, 4, 0] rfl)
          · intro k_158 J_158 h
            refine lv_icmp_ne (tgt := 158) hx hb d_Mo_minorOf_86 (by decide) (fun c_35 => ?_) (fun c_35 => ?_)
            · replace h := ck_if_f h c_35
              exact J_158 _ _ _ _ h _ _ hP hD hS _ (lv_sub hl [0, 1, 2, 3, 4] rfl)
            · replace h := ck_if_t h c_35
              refine lv_aload_n hx hb d_Mo_minorOf_89 rfl (lv_at hl 0 rfl) ?_
              refine va_get (D := (dC, dI)) (ci := 6) (v := .ref (ha 4)) (C := "BasisWalkModel") (T := T_Mo) (N := 31) hx hb hts iw1 hown hK hP 0 rfl rfl 14 (by decide) fl4 (fun _ h9 => h9) rfl d_Mo_minorOf_90 ?_
              refine lv_iload_n hx hb d_Mo_minorOf_93 rfl (lv_at hl 2 rfl) ?_
              refine lv_iload hx hb d_Mo_minorOf_94 (lv_at hl 4 rfl) ?_
              obtain ⟨r_36, hc_37, h⟩ := ck_b1_s h
              have hPc := hP.sub (ws' := [((ha 4), .inl (cI, 12, .inl w_26))]) [4] rfl
              have hDc := hD.sub (ws' := [((ha 4), .inl (cI, 12, .inl w_26))]) [4] (by decide) rfl
              have hFc := va_free (wc := [((ha 4), .inl (cI, 12, .inl w_26))]) hD hS hA [4] rfl
              refine va_calli (va_runS (As := [.ref (ha 4), .int v2_25, .int v4_23]) (rest := []) ⟨hx, hb, hml, hown, hts⟩ (c_R_placeOf l dC dI cI cJ cB cZ cT cN H.size (ha 4) 12 w_26 v2_25 v4_23 _ hc_37) (va_cwS 3 hts (tb_S tw_580 tw_581 tw_6 tw_582) rfl rfl rfl (by decide +kernel) ⟨Nat.le_of_ble_eq_true rfl, Nat.le_of_ble_eq_true rfl⟩) ⟨fun a U g mk q => by obtain ⟨q0, q1, qP, qK, qN, qD⟩ := q; exact ⟨q0, q1, qP, va_K.moved (u := U) (U := U.calling g mk a) (Vm.Alike.refl U.vm) qK, qN.same rfl, qD⟩, fun U hU hW => ⟨rfl, by rw [hU], by rw [hU]; exact hPc, va_K.moved hW.alike hK, hN.warm hW, hDc.weaken (fun _ _ _ _ => trivial)⟩⟩ rfl rfl hl.1 rfl (lv_room (Nat.le_of_ble_eq_true rfl)) d_Mo_minorOf_96 ⟨Nat.zero_le _, Nat.zero_le _⟩) hS (fun q _ h => hFc q h) hFc (fun rr u t H1 locs ht hvm hw hB hz1 hk1 hS => ?_)
              replace hw := hw.symm
              subst hw
              obtain ⟨hP1, -, hD1⟩ := hB
              rw [ht] at hP1
              obtain ⟨hP, hD⟩ := pw_back (ws' := (xw cI cJ cB cZ cN ha NA m_rows m_columns m_prime m_small m_pivots w_26 w_27 m_smallMinor m_fields m_rowCounts m_elements m_numbers m_known m_ranks m_rankOf m_signOf m_order m_sizes m_coefficients m_choices m_sorted ++ po cI NA ND pn pm pd)) (w1 := [((ha 4), .inl (cI, 12, .inl w_26))]) hP hD hk1 hP1 (fun k => match k with | 0 => rfl | 1 => rfl | 2 => rfl | 3 => rfl | 4 => rfl | 5 => rfl | 6 => rfl | 7 => rfl | 8 => rfl | 9 => rfl | 10 => rfl | 11 => rfl | 12 => rfl | 13 => rfl | 14 => rfl | 15 => rfl | 16 => rfl | 17 => rfl | 18 => rfl | 19 => rfl | 20 => rfl | q + 21 => rfl) (fun k q hq => match k, hq with | 0, hq => Or.inr ⟨hq, pw_off (k := 0) hD [4] rfl hq (by decide)⟩ | 1, hq => Or.inr ⟨hq, pw_off (k := 1) hD [4] rfl hq (by decide)⟩ | 2, hq => Or.inr ⟨hq, pw_off (k := 2) hD [4] rfl hq (by decide)⟩ | 3, hq => Or.inr ⟨hq, pw_off (k := 3) hD [4] rfl hq (by decide)⟩ | 4, hq => Or.inl ⟨0, hq⟩ | 5, hq => Or.inr ⟨hq, pw_off (k := 5) hD [4] rfl hq (by decide)⟩ | 6, hq => Or.inr ⟨hq, pw_off (k := 6) hD [4] rfl hq (by decide)⟩ | 7, hq => Or.inr ⟨hq, pw_off (k := 7) hD [4] rfl hq (by decide)⟩ | 8, hq => Or.inr ⟨hq, pw_off (k := 8) hD [4] rfl hq (by decide)⟩ | 9, hq => Or.inr ⟨hq, pw_off (k := 9) hD [4] rfl hq (by decide)⟩ | 10, hq => Or.inr ⟨hq, pw_off (k := 10) hD [4] rfl hq (by decide)⟩ | 11, hq => Or.inr ⟨hq, pw_off (k := 11) hD [4] rfl hq (by decide)⟩ | 12, hq => Or.inr ⟨hq, pw_off (k := 12) hD [4] rfl hq (by decide)⟩ | 13, hq => Or.inr ⟨hq, pw_off (k := 13) hD [4] rfl hq (by decide)⟩ | 14, hq => Or.inr ⟨hq, pw_off (k := 14) hD [4] rfl hq (by decide)⟩ | 15, hq => Or.inr ⟨hq, pw_off (k := 15) hD [4] rfl hq (by decide)⟩ | 16, hq => Or.inr ⟨hq, pw_off (k := 16) hD [4] rfl hq (by decide)⟩ | 17, hq => Or.inr ⟨hq, pw_off (k := 17) hD [4] rfl hq (by decide)⟩ | 18, hq => Or.inr ⟨hq, pw_off (k := 18) hD [4] rfl hq (by decide)⟩ | 19, hq => Or.inr ⟨hq, pw_off (k := 19) hD [4] rfl hq (by decide)⟩ | 20, hq => Or.inr ⟨hq, pw_off (k := 20) hD [4] rfl hq (by decide)⟩ | q + 21, hq => Or.inr ⟨hq, pw_off (k := q + 21) hD [4] rfl hq (by simp only [List.mem_cons, List.not_mem_nil, or_false, not_or]; omega)⟩)
              generalize H1 = H at hP hS ⊢
              have hP : va_P (dC, dI) cl_all (xw cI cJ cB cZ cN ha NA m_rows m_columns m_prime m_small m_pivots w_26 w_27 m_smallMinor m_fields m_rowCounts m_elements m_numbers m_known m_ranks m_rankOf m_signOf m_order m_sizes m_coefficients m_choices m_sorted ++ po cI NA ND pn pm pd) H := hP
              have hD : va_D A (xw cI cJ cB cZ cN ha NA m_rows m_columns m_prime m_small m_pivots w_26 w_27 m_smallMinor m_fields m_rowCounts m_elements m_numbers m_known m_ranks m_rankOf m_signOf m_order m_sizes m_coefficients m_choices m_sorted ++ po cI NA ND pn pm pd) := hD
              refine lv_istore (lv' := [(5, .int r_36), (0, .ref (ha 0)), (1, .int set0), (2, .int v2_25), (3, .int v3_24), (4, .int v4_23)]) hx hb d_Mo_minorOf_99 hl (by decide) rfl (fun ls hl => ?_)
              refine lv_aload_n hx hb d_Mo_minorOf_101 rfl (lv_at hl 1 rfl) ?_
              refine va_get (D := (dC, dI)) (ci := 6) (v := .ref (ha 5)) (C := "BasisWalkModel") (T := T_Mo) (N := 31) hx hb hts iw1 hown hK hP 0 rfl rfl 15 (by decide) fl5 (fun _ h9 => h9) rfl d_Mo_minorOf_102 ?_
              refine lv_iload_n hx hb d_Mo_minorOf_105 rfl (lv_at hl 3 rfl) ?_
              refine lv_aload_n hx hb d_Mo_minorOf_106 rfl (lv_at hl 1 rfl) ?_
              refine va_get (D := (dC, dI)) (ci := 6) (v := .ref (ha 3)) (C := "BasisWalkModel") (T := T_Mo) (N := 31) hx hb hts iw1 hown hK hP 0 rfl rfl 13 (by decide) fl3 (fun _ h9 => h9) rfl d_Mo_minorOf_107 ?_
              refine lv_iload hx hb d_Mo_minorOf_110 (lv_at hl 5 rfl) ?_
              obtain ⟨g_38, h⟩ := ck_in_s h
              refine va_iald hx hb hK hP 3 0 rfl rfl g_38 d_Mo_minorOf_112 ?_
              obtain ⟨r_39, hc_40, h⟩ := ck_b1_s h
              have hPc := hP.sub (ws' := [((ha 5), .inl (cI, 12, .inl w_27))]) [5] rfl
              have hDc := hD.sub (ws' := [((ha 5), .inl (cI, 12, .inl w_27))]) [5] (by decide) rfl
              have hFc := va_free (wc := [((ha 5), .inl (cI, 12, .inl w_27))]) hD hS hA [5] rfl
              refine va_calli (va_runS (As := [.ref (ha 5), .int v2_25, .int (m_pivots v4_23.toNatClampNeg)]) (rest := []) ⟨hx, hb, hml, hown, hts⟩ (c_R_placeOf l dC dI cI cJ cB cZ cT cN H.size (ha 5) 12 w_27 v2_25 (m_pivots v4_23.toNatClampNeg) _ hc_40) (va_cwS 3 hts (tb_S tw_580 tw_581 tw_6 tw_582) rfl rfl rfl (by decide +kernel) ⟨Nat.le_of_ble_eq_true rfl, Nat.le_of_ble_eq_true rfl⟩) ⟨fun a U g mk q => by obtain ⟨q0, q1, qP, qK, qN, qD⟩ := q; exact ⟨q0, q1, qP, va_K.moved (u := U) (U := U.calling g mk a) (Vm.Alike.refl U.vm) qK, qN.same rfl, qD⟩, fun U hU hW => ⟨rfl, by rw [hU], by rw [hU]; exact hPc, va_K.moved hW.alike hK, hN.warm hW, hDc.weaken (fun _ _ _ _ => trivial)⟩⟩ rfl rfl hl.1 rfl (lv_room (Nat.le_of_ble_eq_true rfl)) d_Mo_minorOf_113 ⟨Nat.zero_le _, Nat.zero_le _⟩) hS (fun q _ h => hFc q h) hFc (fun rr u t H1 locs ht hvm hw hB hz1 hk1 hS => ?_)
              replace hw := hw.symm
              subst hw
              obtain ⟨hP1, -, hD1⟩ := hB
              rw [ht] at hP1
              obtain ⟨hP, hD⟩ := pw_back (ws' := (xw cI cJ cB cZ cN ha NA m_rows m_columns m_prime m_small m_pivots w_26 w_27 m_smallMinor m_fields m_rowCounts m_elements m_numbers m_known m_ranks m_rankOf m_signOf m_order m_sizes m_coefficients m_choices m_sorted ++ po cI NA ND pn pm pd)) (w1 := [((ha 5), .inl (cI, 12, .inl w_27))]) hP hD hk1 hP1 (fun k => match k with | 0 => rfl | 1 => rfl | 2 => rfl | 3 => rfl | 4 => rfl | 5 => rfl | 6 => rfl | 7 => rfl | 8 => rfl | 9 => rfl | 10 => rfl | 11 => rfl | 12 => rfl | 13 => rfl | 14 => rfl | 15 => rfl | 16 => rfl | 17 => rfl | 18 => rfl | 19 => rfl | 20 => rfl | q + 21 => rfl) (fun k q hq => match k, hq with | 0, hq => Or.inr ⟨hq, pw_off (k := 0) hD [5] rfl hq (by decide)⟩ | 1, hq => Or.inr ⟨hq, pw_off (k := 1) hD [5] rfl hq (by decide)⟩ | 2, hq => Or.inr ⟨hq, pw_off (k := 2) hD [5] rfl hq (by decide)⟩ | 3, hq => Or.inr ⟨hq, pw_off (k := 3) hD [5] rfl hq (by decide)⟩ | 4, hq => Or.inr ⟨hq, pw_off (k := 4) hD [5] rfl hq (by decide)⟩ | 5, hq => Or.inl ⟨0, hq⟩ | 6, hq => Or.inr ⟨hq, pw_off (k := 6) hD [5] rfl hq (by decide)⟩ | 7, hq => Or.inr ⟨hq, pw_off (k := 7) hD [5] rfl hq (by decide)⟩ | 8, hq => Or.inr ⟨hq, pw_off (k := 8) hD [5] rfl hq (by decide)⟩ | 9, hq => Or.inr ⟨hq, pw_off (k := 9) hD [5] rfl hq (by decide)⟩ | 10, hq => Or.inr ⟨hq, pw_off (k := 10) hD [5] rfl hq (by decide)⟩ | 11, hq => Or.inr ⟨hq, pw_off (k := 11) hD [5] rfl hq (by decide)⟩ | 12, hq => Or.inr ⟨hq, pw_off (k := 12) hD [5] rfl hq (by decide)⟩ | 13, hq => Or.inr ⟨hq, pw_off (k := 13) hD [5] rfl hq (by decide)⟩ | 14, hq => Or.inr ⟨hq, pw_off (k := 14) hD [5] rfl hq (by decide)⟩ | 15, hq => Or.inr ⟨hq, pw_off (k := 15) hD [5] rfl hq (by decide)⟩ | 16, hq => Or.inr ⟨hq, pw_off (k := 16) hD [5] rfl hq (by decide)⟩ | 17, hq => Or.inr ⟨hq, pw_off (k := 17) hD [5] rfl hq (by decide)⟩ | 18, hq => Or.inr ⟨hq, pw_off (k := 18) hD [5] rfl hq (by decide)⟩ | 19, hq => Or.inr ⟨hq, pw_off (k := 19) hD [5] rfl hq (by decide)⟩ | 20, hq => Or.inr ⟨hq, pw_off (k := 20) hD [5] rfl hq (by decide)⟩ | q + 21, hq => Or.inr ⟨hq, pw_off (k := q + 21) hD [5] rfl hq (by simp only [List.mem_cons, List.not_mem_nil, or_false, not_or]; omega)⟩)
              generalize H1 = H at hP hS ⊢
              have hP : va_P (dC, dI) cl_all (xw cI cJ cB cZ cN ha NA m_rows m_columns m_prime m_small m_pivots w_26 w_27 m_smallMinor m_fields m_rowCounts m_elements m_numbers m_known m_ranks m_rankOf m_signOf m_order m_sizes m_coefficients m_choices m_sorted ++ po cI NA ND pn pm pd) H := hP
              have hD : va_D A (xw cI cJ cB cZ cN ha NA m_rows m_columns m_prime m_small m_pivots w_26 w_27 m_smallMinor m_fields m_rowCounts m_elements m_numbers m_known m_ranks m_rankOf m_signOf m_order m_sizes m_coefficients m_choices m_sorted ++ po cI NA ND pn pm pd) := hD
              refine lv_istore (lv' := [(6, .int r_39), (5, .int r_36), (0, .ref (ha 0)), (1, .int set0), (2, .int v2_25), (3, .int v3_24), (4, .int v4_23)]) hx hb d_Mo_minorOf_116 hl (by decide) rfl (fun ls hl => ?_)
              refine lv_iload hx hb d_Mo_minorOf_118 (lv_at hl 1 rfl) ?_
              refine lv_iload hx hb d_Mo_minorOf_120 (lv_at hl 0 rfl) ?_
              refine lv_iadd hx hb d_Mo_minorOf_122 ?_
              refine lv_iconst (v := 2) hx hb d_Mo_minorOf_123 (by decide) ?_
              refine lv_irem hx hb d_Mo_minorOf_124 (by decide) ?_
              refine ck_jn_W h (fun k' => ∀ (s0_41 : Int32), k' s0_41 = some r → ∀ (H : Heap) (locs : List Loc), va_P (dC, dI) cl_all (xw cI cJ cB cZ cN ha NA m_rows m_columns m_prime m_small m_pivots w_26 w_27 m_smallMinor m_fields m_rowCounts m_elements m_numbers m_known m_ranks m_rankOf m_signOf m_order m_sizes m_coefficients m_choices m_sorted ++ po cI NA ND pn pm pd) H → va_D A (xw cI cJ cB cZ cN ha NA m_rows m_columns m_prime m_small m_pivots w_26 w_27 m_smallMinor m_fields m_rowCounts m_elements m_numbers m_known m_ranks m_rankOf m_signOf m_order m_sizes m_coefficients m_choices m_sorted ++ po cI NA ND pn pm pd) → va_S A s.heap H locs → ∀ ls : Array Slot, lv_has ls 7 [(0, .ref (ha 0)), (1, .int set0), (2, .int v2_25), (4, .int v4_23), (5, .int r_36), (6, .int r_39)] → W p l e ({ frames := 4, cells := 0, slots := 0, locals := 106 } : Room) s m AR below meth c H locs 0 0 QQ (F0 m 134 ls [.int s0_41])) ?_ ?_
              · intro s0_41 h H locs hP hD hS ls hl
                refine lv_istore_n (lv' := [(3, .int s0_41), (0, .ref (ha 0)), (1, .int set0), (2, .int v2_25), (4, .int v4_23), (5, .int r_36), (6, .int r_39)]) hx hb d_Mo_minorOf_134 rfl hl (by decide) rfl (fun ls hl => ?_)
                refine lv_aload_n hx hb d_Mo_minorOf_135 rfl (lv_at hl 1 rfl) ?_
                refine va_get (D := (dC, dI)) (ci := 6) (v := .ref (ha 4)) (C := "BasisWalkModel") (T := T_Mo) (N := 31) hx hb hts iw1 hown hK hP 0 rfl rfl 14 (by decide) fl4 (fun _ h9 => h9) rfl d_Mo_minorOf_136 ?_
                refine lv_iload_n hx hb d_Mo_minorOf_139 rfl (lv_at hl 3 rfl) ?_
                refine lv_iload hx hb d_Mo_minorOf_140 (lv_at hl 5 rfl) ?_
                obtain ⟨u_42, hc_43, h⟩ := ck_b1_s h
                have hPc := hP.sub (ws' := [((ha 4), .inl (cI, 12, .inl w_26))]) [4] rfl
                have hDc := hD.sub (ws' := [((ha 4), .inl (cI, 12, .inl w_26))]) [4] (by decide) rfl
                have hFc := va_free (wc := [((ha 4), .inl (cI, 12, .inl w_26))]) hD hS hA [4] rfl
                refine va_callv (va_runS (As := [.ref (ha 4), .int v2_25, .int r_36]) (rest := []) ⟨hx, hb, hml, hown, hts⟩ (c_R_remove l dC dI cI cJ cB cZ cT cN H.size (ha 4) 12 w_26 v2_25 r_36 _ hc_43) (va_cwS 3 hts (tb_S tw_583 tw_584 tw_6 tw_585) rfl rfl rfl (by decide +kernel) ⟨Nat.le_of_ble_eq_true rfl, Nat.le_of_ble_eq_true rfl⟩) ⟨fun a U g mk q => by obtain ⟨q0, q1, qP, qK, qN, qD⟩ := q; exact ⟨q0, q1, qP, va_K.moved (u := U) (U := U.calling g mk a) (Vm.Alike.refl U.vm) qK, qN.same rfl, qD⟩, fun U hU hW => ⟨rfl, by rw [hU], by rw [hU]; exact hPc, va_K.moved hW.alike hK, hN.warm hW, hDc.weaken (fun _ _ _ _ => trivial)⟩⟩ rfl rfl hl.1 rfl (lv_room (Nat.le_of_ble_eq_true rfl)) d_Mo_minorOf_142 ⟨Nat.zero_le _, Nat.zero_le _⟩) hS (fun q _ h => hFc q h) hFc (fun u t H1 locs ht hvm hw hB hz1 hk1 hS => ?_)
                replace hw := hw.symm
                subst hw
                obtain ⟨hP1, -, hD1⟩ := hB
                rw [ht] at hP1
                obtain ⟨hP, hD⟩ := pw_back (ws' := (xw cI cJ cB cZ cN ha NA m_rows m_columns m_prime m_small m_pivots u_42 w_27 m_smallMinor m_fields m_rowCounts m_elements m_numbers m_known m_ranks m_rankOf m_signOf m_order m_sizes m_coefficients m_choices m_sorted ++ po cI NA ND pn pm pd)) (w1 := [((ha 4), .inl (cI, 12, .inl u_42))]) hP hD hk1 hP1 (fun k => match k with | 0 => rfl | 1 => rfl | 2 => rfl | 3 => rfl | 4 => rfl | 5 => rfl | 6 => rfl | 7 => rfl | 8 => rfl | 9 => rfl | 10 => rfl | 11 => rfl | 12 => rfl | 13 => rfl | 14 => rfl | 15 => rfl | 16 => rfl | 17 => rfl | 18 => rfl | 19 => rfl | 20 => rfl | q + 21 => rfl) (fun k q hq => match k, hq with | 0, hq => Or.inr ⟨hq, pw_off (k := 0) hD [4] rfl hq (by decide)⟩ | 1, hq => Or.inr ⟨hq, pw_off (k := 1) hD [4] rfl hq (by decide)⟩ | 2, hq => Or.inr ⟨hq, pw_off (k := 2) hD [4] rfl hq (by decide)⟩ | 3, hq => Or.inr ⟨hq, pw_off (k := 3) hD [4] rfl hq (by decide)⟩ | 4, hq => Or.inl ⟨0, hq⟩ | 5, hq => Or.inr ⟨hq, pw_off (k := 5) hD [4] rfl hq (by decide)⟩ | 6, hq => Or.inr ⟨hq, pw_off (k := 6) hD [4] rfl hq (by decide)⟩ | 7, hq => Or.inr ⟨hq, pw_off (k := 7) hD [4] rfl hq (by decide)⟩ | 8, hq => Or.inr ⟨hq, pw_off (k := 8) hD [4] rfl hq (by decide)⟩ | 9, hq => Or.inr ⟨hq, pw_off (k := 9) hD [4] rfl hq (by decide)⟩ | 10, hq => Or.inr ⟨hq, pw_off (k := 10) hD [4] rfl hq (by decide)⟩ | 11, hq => Or.inr ⟨hq, pw_off (k := 11) hD [4] rfl hq (by decide)⟩ | 12, hq => Or.inr ⟨hq, pw_off (k := 12) hD [4] rfl hq (by decide)⟩ | 13, hq => Or.inr ⟨hq, pw_off (k := 13) hD [4] rfl hq (by decide)⟩ | 14, hq => Or.inr ⟨hq, pw_off (k := 14) hD [4] rfl hq (by decide)⟩ | 15, hq => Or.inr ⟨hq, pw_off (k := 15) hD [4] rfl hq (by decide)⟩ | 16, hq => Or.inr ⟨hq, pw_off (k := 16) hD [4] rfl hq (by decide)⟩ | 17, hq => Or.inr ⟨hq, pw_off (k := 17) hD [4] rfl hq (by decide)⟩ | 18, hq => Or.inr ⟨hq, pw_off (k := 18) hD [4] rfl hq (by decide)⟩ | 19, hq => Or.inr ⟨hq, pw_off (k := 19) hD [4] rfl hq (by decide)⟩ | 20, hq => Or.inr ⟨hq, pw_off (k := 20) hD [4] rfl hq (by decide)⟩ | q + 21, hq => Or.inr ⟨hq, pw_off (k := q + 21) hD [4] rfl hq (by simp only [List.mem_cons, List.not_mem_nil, or_false, not_or]; omega)⟩)
                generalize H1 = H at hP hS ⊢
                have hP : va_P (dC, dI) cl_all (xw cI cJ cB cZ cN ha NA m_rows m_columns m_prime m_small m_pivots u_42 w_27 m_smallMinor m_fields m_rowCounts m_elements m_numbers m_known m_ranks m_rankOf m_signOf m_order m_sizes m_coefficients m_choices m_sorted ++ po cI NA ND pn pm pd) H := hP
                have hD : va_D A (xw cI cJ cB cZ cN ha NA m_rows m_columns m_prime m_small m_pivots u_42 w_27 m_smallMinor m_fields m_rowCounts m_elements m_numbers m_known m_ranks m_rankOf m_signOf m_order m_sizes m_coefficients m_choices m_sorted ++ po cI NA ND pn pm pd) := hD
                refine lv_aload_n hx hb d_Mo_minorOf_145 rfl (lv_at hl 1 rfl) ?_
                refine va_get (D := (dC, dI)) (ci := 6) (v := .ref (ha 5)) (C := "BasisWalkModel") (T := T_Mo) (N := 31) hx hb hts iw1 hown hK hP 0 rfl rfl 15 (by decide) fl5 (fun _ h9 => h9) rfl d_Mo_minorOf_146 ?_
                refine lv_iload_n hx hb d_Mo_minorOf_149 rfl (lv_at hl 3 rfl) ?_
                refine lv_iload hx hb d_Mo_minorOf_150 (lv_at hl 6 rfl) ?_
                obtain ⟨u_44, hc_45, h⟩ := ck_b1_s h
                have hPc := hP.sub (ws' := [((ha 5), .inl (cI, 12, .inl w_27))]) [5] rfl
                have hDc := hD.sub (ws' := [((ha 5), .inl (cI, 12, .inl w_27))]) [5] (by decide) rfl
                have hFc := va_free (wc := [((ha 5), .inl (cI, 12, .inl w_27))]) hD hS hA [5] rfl
                refine va_callv (va_runS (As := [.ref (ha 5), .int v2_25, .int r_39]) (rest := []) ⟨hx, hb, hml, hown, hts⟩ (c_R_remove l dC dI cI cJ cB cZ cT cN H.size (ha 5) 12 w_27 v2_25 r_39 _ hc_45) (va_cwS 3 hts (tb_S tw_583 tw_584 tw_6 tw_585) rfl rfl rfl (by decide +kernel) ⟨Nat.le_of_ble_eq_true rfl, Nat.le_of_ble_eq_true rfl⟩) ⟨fun a U g mk q => by obtain ⟨q0, q1, qP, qK, qN, qD⟩ := q; exact ⟨q0, q1, qP, va_K.moved (u := U) (U := U.calling g mk a) (Vm.Alike.refl U.vm) qK, qN.same rfl, qD⟩, fun U hU hW => ⟨rfl, by rw [hU], by rw [hU]; exact hPc, va_K.moved hW.alike hK, hN.warm hW, hDc.weaken (fun _ _ _ _ => trivial)⟩⟩ rfl rfl hl.1 rfl (lv_room (Nat.le_of_ble_eq_true rfl)) d_Mo_minorOf_152 ⟨Nat.zero_le _, Nat.zero_le _⟩) hS (fun q _ h => hFc q h) hFc (fun u t H1 locs ht hvm hw hB hz1 hk1 hS => ?_)
                replace hw := hw.symm
                subst hw
                obtain ⟨hP1, -, hD1⟩ := hB
                rw [ht] at hP1
                obtain ⟨hP, hD⟩ := pw_back (ws' := (xw cI cJ cB cZ cN ha NA m_rows m_columns m_prime m_small m_pivots u_42 u_44 m_smallMinor m_fields m_rowCounts m_elements m_numbers m_known m_ranks m_rankOf m_signOf m_order m_sizes m_coefficients m_choices m_sorted ++ po cI NA ND pn pm pd)) (w1 := [((ha 5), .inl (cI, 12, .inl u_44))]) hP hD hk1 hP1 (fun k => match k with | 0 => rfl | 1 => rfl | 2 => rfl | 3 => rfl | 4 => rfl | 5 => rfl | 6 => rfl | 7 => rfl | 8 => rfl | 9 => rfl | 10 => rfl | 11 => rfl | 12 => rfl | 13 => rfl | 14 => rfl | 15 => rfl | 16 => rfl | 17 => rfl | 18 => rfl | 19 => rfl | 20 => rfl | q + 21 => rfl) (fun k q hq => match k, hq with | 0, hq => Or.inr ⟨hq, pw_off (k := 0) hD [5] rfl hq (by decide)⟩ | 1, hq => Or.inr ⟨hq, pw_off (k := 1) hD [5] rfl hq (by decide)⟩ | 2, hq => Or.inr ⟨hq, pw_off (k := 2) hD [5] rfl hq (by decide)⟩ | 3, hq => Or.inr ⟨hq, pw_off (k := 3) hD [5] rfl hq (by decide)⟩ | 4, hq => Or.inr ⟨hq, pw_off (k := 4) hD [5] rfl hq (by decide)⟩ | 5, hq => Or.inl ⟨0, hq⟩ | 6, hq => Or.inr ⟨hq, pw_off (k := 6) hD [5] rfl hq (by decide)⟩ | 7, hq => Or.inr ⟨hq, pw_off (k := 7) hD [5] rfl hq (by decide)⟩ | 8, hq => Or.inr ⟨hq, pw_off (k := 8) hD [5] rfl hq (by decide)⟩ | 9, hq => Or.inr ⟨hq, pw_off (k := 9) hD [5] rfl hq (by decide)⟩ | 10, hq => Or.inr ⟨hq, pw_off (k := 10) hD [5] rfl hq (by decide)⟩ | 11, hq => Or.inr ⟨hq, pw_off (k := 11) hD [5] rfl hq (by decide)⟩ | 12, hq => Or.inr ⟨hq, pw_off (k := 12) hD [5] rfl hq (by decide)⟩ | 13, hq => Or.inr ⟨hq, pw_off (k := 13) hD [5] rfl hq (by decide)⟩ | 14, hq => Or.inr ⟨hq, pw_off (k := 14) hD [5] rfl hq (by decide)⟩ | 15, hq => Or.inr ⟨hq, pw_off (k := 15) hD [5] rfl hq (by decide)⟩ | 16, hq => Or.inr ⟨hq, pw_off (k := 16) hD [5] rfl hq (by decide)⟩ | 17, hq => Or.inr ⟨hq, pw_off (k := 17) hD [5] rfl hq (by decide)⟩ | 18, hq => Or.inr ⟨hq, pw_off (k := 18) hD [5] rfl hq (by decide)⟩ | 19, hq => Or.inr ⟨hq, pw_off (k := 19) hD [5] rfl hq (by decide)⟩ | 20, hq => Or.inr ⟨hq, pw_off (k := 20) hD [5] rfl hq (by decide)⟩ | q + 21, hq => Or.inr ⟨hq, pw_off (k := q + 21) hD [5] rfl hq (by simp only [List.mem_cons, List.not_mem_nil, or_false, not_or]; omega)⟩)
                generalize H1 = H at hP hS ⊢
                have hP : va_P (dC, dI) cl_all (xw cI cJ cB cZ cN ha NA m_rows m_columns m_prime m_small m_pivots u_42 u_44 m_smallMinor m_fields m_rowCounts m_elements m_numbers m_known m_ranks m_rankOf m_signOf m_order m_sizes m_coefficients m_choices m_sorted ++ po cI NA ND pn pm pd) H := hP
                have hD : va_D A (xw cI cJ cB cZ cN ha NA m_rows m_columns m_prime m_small m_pivots u_42 u_44 m_smallMinor m_fields m_rowCounts m_elements m_numbers m_known m_ranks m_rankOf m_signOf m_order m_sizes m_coefficients m_choices m_sorted ++ po cI NA ND pn pm pd) := hD
                obtain ⟨x_46, ex_46⟩ : ∃ y : Int32, y = v2_25 + (-1) := ⟨_, rfl⟩
                replace h := ck_nm_s h ex_46
                refine lv_iinc (v := x_46) (lv' := [(2, .int x_46), (3, .int s0_41), (0, .ref (ha 0)), (1, .int set0), (4, .int v4_23), (5, .int r_36), (6, .int r_39)]) hx hb d_Mo_minorOf_155 hl (k := 3) rfl (by rw [ex_46]; rfl) (by decide) rfl (fun ls hl => ?_)
                exact J_158 _ _ _ _ h _ _ hP hD hS _ (lv_sub hl [2, 3, 0, 1, 4] rfl)
              · intro k_134 J_134 h
                refine lv_if_ne (tgt := 132) hx hb d_Mo_minorOf_125 (by decide) (fun c_47 => ?_) (fun c_47 => ?_)
                · replace h := ck_if_f h c_47
                  refine lv_iload_n hx hb d_Mo_minorOf_132 rfl (lv_at hl 5 rfl) ?_
                  refine lv_ineg hx hb d_Mo_minorOf_133 ?_
                  exact J_134 _ h _ _ hP hD hS _ (lv_sub hl [2, 3, 4, 6, 1, 0] rfl)
                · replace h := ck_if_t h c_47
                  refine lv_iload_n hx hb d_Mo_minorOf_128 rfl (lv_at hl 5 rfl) ?_
                  refine lv_goto (tgt := 134) hx hb d_Mo_minorOf_129 (by decide) ?_
                  exact J_134 _ h _ _ hP hD hS _ (lv_sub hl [2, 3, 4, 6, 1, 0] rfl)
    · intro k_60 J_60 h
      refine lo2_W (r := r) (fun (v3_48 : Int32) (w_49 : Nat → Int32) => ∀ (H : Heap) (locs : List Loc), va_P (dC, dI) cl_all (xw cI cJ cB cZ cN ha NA m_rows m_columns m_prime m_small m_pivots w_49 w_2 m_smallMinor m_fields m_rowCounts m_elements m_numbers m_known m_ranks m_rankOf m_signOf m_order m_sizes m_coefficients m_choices m_sorted ++ po cI NA ND pn pm pd) H → va_D A (xw cI cJ cB cZ cN ha NA m_rows m_columns m_prime m_small m_pivots w_49 w_2 m_smallMinor m_fields m_rowCounts m_elements m_numbers m_known m_ranks m_rankOf m_signOf m_order m_sizes m_coefficients m_choices m_sorted ++ po cI NA ND pn pm pd) → va_S A s.heap H locs → ∀ ls : Array Slot, lv_has ls 7 [(0, .ref (ha 0)), (1, .int set0), (2, .int v2_1), (3, .int v3_48)] → W p l e ({ frames := 4, cells := 0, slots := 0, locals := 106 } : Room) s m AR below meth c H locs 0 0 QQ (F0 m 39 ls [])) ?_ _ _ _ h _ _ hP hD hS _ (lv_sub hl [1, 2, 3, 0] rfl)
      intro k_39 v3_48 w_49 J_39 h H locs hP hD hS ls hl
      refine lv_iload_n hx hb d_Mo_minorOf_39 rfl (lv_at hl 3 rfl) ?_
      refine lv_aload_n hx hb d_Mo_minorOf_40 rfl (lv_at hl 0 rfl) ?_
      refine va_get (D := (dC, dI)) (ci := 6) (v := .int m_rows) (C := "BasisWalkModel") (T := T_Mo) (N := 31) hx hb hts iw1 hown hK hP 0 rfl rfl 10 (by decide) fl2 (fun _ h9 => h9) rfl d_Mo_minorOf_41 ?_
      refine lv_icmp_ge (tgt := 60) hx hb d_Mo_minorOf_44 (by decide) (fun c_50 => ?_) (fun c_50 => ?_)
      · replace h := ck_if_t h c_50
        exact J_60 _ h _ _ hP hD hS _ (lv_sub hl [0, 1, 2] rfl)
      · replace h := ck_if_f h c_50
        refine lv_aload_n hx hb d_Mo_minorOf_47 rfl (lv_at hl 0 rfl) ?_
        refine va_get (D := (dC, dI)) (ci := 6) (v := .ref (ha 4)) (C := "BasisWalkModel") (T := T_Mo) (N := 31) hx hb hts iw1 hown hK hP 0 rfl rfl 14 (by decide) fl4 (fun _ h9 => h9) rfl d_Mo_minorOf_48 ?_
        refine lv_iload_n hx hb d_Mo_minorOf_51 rfl (lv_at hl 3 rfl) ?_
        refine lv_iload_n hx hb d_Mo_minorOf_52 rfl (lv_at hl 3 rfl) ?_
        obtain ⟨g_51, h⟩ := ck_in_s h
        refine va_iast hx hb hK hP hD hS 4 0 rfl rfl g_51 d_Mo_minorOf_53 (fun H locs hP hD hS => ?_)
        have hP : va_P (dC, dI) cl_all (xw cI cJ cB cZ cN ha NA m_rows m_columns m_prime m_small m_pivots (upd w_49 v3_48.toNatClampNeg v3_48) w_2 m_smallMinor m_fields m_rowCounts m_elements m_numbers m_known m_ranks m_rankOf m_signOf m_order m_sizes m_coefficients m_choices m_sorted ++ po cI NA ND pn pm pd) H := hP
        have hD : va_D A (xw cI cJ cB cZ cN ha NA m_rows m_columns m_prime m_small m_pivots (upd w_49 v3_48.toNatClampNeg v3_48) w_2 m_smallMinor m_fields m_rowCounts m_elements m_numbers m_known m_ranks m_rankOf m_signOf m_order m_sizes m_coefficients m_choices m_sorted ++ po cI NA ND pn pm pd) := hD
        obtain ⟨x_52, ex_52⟩ : ∃ y : Int32, y = v3_48 + 1 := ⟨_, rfl⟩
        replace h := ck_nm_s h ex_52
        refine lv_iinc (v := x_52) (lv' := [(3, .int x_52), (0, .ref (ha 0)), (1, .int set0), (2, .int v2_1)]) hx hb d_Mo_minorOf_54 hl (k := 3) rfl (by rw [ex_52]; rfl) (by decide) rfl (fun ls hl => ?_)
        refine lv_goto (tgt := 39) hx hb d_Mo_minorOf_57 (by decide) ?_
        exact J_39 _ _ h _ _ hP hD hS _ (lv_sub hl [1, 2, 3, 0] rfl)
  · intro k_37 J_37 h
    refine lo3_W (r := r) (fun (v3_53 : Int32) (v2_54 : Int32) (w_55 : Nat → Int32) => ∀ (H : Heap) (locs : List Loc), va_P (dC, dI) cl_all (xw cI cJ cB cZ cN ha NA m_rows m_columns m_prime m_small m_pivots m_freeRows w_55 m_smallMinor m_fields m_rowCounts m_elements m_numbers m_known m_ranks m_rankOf m_signOf m_order m_sizes m_coefficients m_choices m_sorted ++ po cI NA ND pn pm pd) H → va_D A (xw cI cJ cB cZ cN ha NA m_rows m_columns m_prime m_small m_pivots m_freeRows w_55 m_smallMinor m_fields m_rowCounts m_elements m_numbers m_known m_ranks m_rankOf m_signOf m_order m_sizes m_coefficients m_choices m_sorted ++ po cI NA ND pn pm pd) → va_S A s.heap H locs → ∀ ls : Array Slot, lv_has ls 7 [(0, .ref (ha 0)), (1, .int set0), (2, .int v2_54), (3, .int v3_53)] → W p l e ({ frames := 4, cells := 0, slots := 0, locals := 106 } : Room) s m AR below meth c H locs 0 0 QQ (F0 m 4 ls [])) ?_ _ _ _ _ h _ _ hP hD hS _ (lv_sub hl [2, 3, 1, 0] rfl)
    intro k_4 v3_53 v2_54 w_55 J_4 h H locs hP hD hS ls hl
    refine lv_iload_n hx hb d_Mo_minorOf_4 rfl (lv_at hl 3 rfl) ?_
    refine lv_aload_n hx hb d_Mo_minorOf_5 rfl (lv_at hl 0 rfl) ?_
    refine va_get (D := (dC, dI)) (ci := 6) (v := .int m_columns) (C := "BasisWalkModel") (T := T_Mo) (N := 31) hx hb hts iw1 hown hK hP 0 rfl rfl 11 (by decide) fl6 (fun _ h9 => h9) rfl d_Mo_minorOf_6 ?_
    refine lv_icmp_ge (tgt := 37) hx hb d_Mo_minorOf_9 (by decide) (fun c_56 => ?_) (fun c_56 => ?_)
    · replace h := ck_if_t h c_56
      exact J_37 _ _ h _ _ hP hD hS _ (lv_sub hl [0, 1, 2] rfl)
    · replace h := ck_if_f h c_56
      refine lv_iload_n hx hb d_Mo_minorOf_12 rfl (lv_at hl 1 rfl) ?_
      refine lv_iload_n hx hb d_Mo_minorOf_13 rfl (lv_at hl 3 rfl) ?_
      refine lv_ishr hx hb d_Mo_minorOf_14 ?_
      refine lv_iconst (v := 1) hx hb d_Mo_minorOf_15 (by decide) ?_
      refine lv_iand hx hb d_Mo_minorOf_16 ?_
      refine lv_iconst (v := 1) hx hb d_Mo_minorOf_17 (by decide) ?_
      refine ck_jn_W h (fun k' => ∀ (v2_57 : Int32) (w_58 : Nat → Int32), k' v2_57 w_58 = some r → ∀ (H : Heap) (locs : List Loc), va_P (dC, dI) cl_all (xw cI cJ cB cZ cN ha NA m_rows m_columns m_prime m_small m_pivots m_freeRows w_58 m_smallMinor m_fields m_rowCounts m_elements m_numbers m_known m_ranks m_rankOf m_signOf m_order m_sizes m_coefficients m_choices m_sorted ++ po cI NA ND pn pm pd) H → va_D A (xw cI cJ cB cZ cN ha NA m_rows m_columns m_prime m_small m_pivots m_freeRows w_58 m_smallMinor m_fields m_rowCounts m_elements m_numbers m_known m_ranks m_rankOf m_signOf m_order m_sizes m_coefficients m_choices m_sorted ++ po cI NA ND pn pm pd) → va_S A s.heap H locs → ∀ ls : Array Slot, lv_has ls 7 [(0, .ref (ha 0)), (1, .int set0), (2, .int v2_57), (3, .int v3_53)] → W p l e ({ frames := 4, cells := 0, slots := 0, locals := 106 } : Room) s m AR below meth c H locs 0 0 QQ (F0 m 31 ls [])) ?_ ?_
      · intro v2_57 w_58 h H locs hP hD hS ls hl
        obtain ⟨x_59, ex_59⟩ : ∃ y : Int32, y = v3_53 + 1 := ⟨_, rfl⟩
        replace h := ck_nm_s h ex_59
        refine lv_iinc (v := x_59) (lv' := [(3, .int x_59), (0, .ref (ha 0)), (1, .int set0), (2, .int v2_57)]) hx hb d_Mo_minorOf_31 hl (k := 3) rfl (by rw [ex_59]; rfl) (by decide) rfl (fun ls hl => ?_)
        refine lv_goto (tgt := 4) hx hb d_Mo_minorOf_34 (by decide) ?_
        exact J_4 _ _ _ h _ _ hP hD hS _ (lv_sub hl [1, 2, 3, 0] rfl)
      · intro k_31 J_31 h
        refine lv_icmp_ne (tgt := 31) hx hb d_Mo_minorOf_18 (by decide) (fun c_60 => ?_) (fun c_60 => ?_)
        · replace h := ck_if_f h c_60
          exact J_31 _ _ h _ _ hP hD hS _ (lv_sub hl [0, 1, 2, 3] rfl)
        · replace h := ck_if_t h c_60
          refine lv_aload_n hx hb d_Mo_minorOf_21 rfl (lv_at hl 0 rfl) ?_
          refine va_get (D := (dC, dI)) (ci := 6) (v := .ref (ha 5)) (C := "BasisWalkModel") (T := T_Mo) (N := 31) hx hb hts iw1 hown hK hP 0 rfl rfl 15 (by decide) fl5 (fun _ h9 => h9) rfl d_Mo_minorOf_22 ?_
          refine lv_iload_n hx hb d_Mo_minorOf_25 rfl (lv_at hl 2 rfl) ?_
          refine lv_iload_n hx hb d_Mo_minorOf_26 rfl (lv_at hl 3 rfl) ?_
          obtain ⟨g_61, h⟩ := ck_in_s h
          refine va_iast hx hb hK hP hD hS 5 0 rfl rfl g_61 d_Mo_minorOf_27 (fun H locs hP hD hS => ?_)
          have hP : va_P (dC, dI) cl_all (xw cI cJ cB cZ cN ha NA m_rows m_columns m_prime m_small m_pivots m_freeRows (upd w_55 v2_54.toNatClampNeg v3_53) m_smallMinor m_fields m_rowCounts m_elements m_numbers m_known m_ranks m_rankOf m_signOf m_order m_sizes m_coefficients m_choices m_sorted ++ po cI NA ND pn pm pd) H := hP
          have hD : va_D A (xw cI cJ cB cZ cN ha NA m_rows m_columns m_prime m_small m_pivots m_freeRows (upd w_55 v2_54.toNatClampNeg v3_53) m_smallMinor m_fields m_rowCounts m_elements m_numbers m_known m_ranks m_rankOf m_signOf m_order m_sizes m_coefficients m_choices m_sorted ++ po cI NA ND pn pm pd) := hD
          obtain ⟨x_62, ex_62⟩ : ∃ y : Int32, y = v2_54 + 1 := ⟨_, rfl⟩
          replace h := ck_nm_s h ex_62
          refine lv_iinc (v := x_62) (lv' := [(2, .int x_62), (0, .ref (ha 0)), (1, .int set0), (3, .int v3_53)]) hx hb d_Mo_minorOf_28 hl (k := 2) rfl (by rw [ex_62]; rfl) (by decide) rfl (fun ls hl => ?_)
          exact J_31 _ _ h _ _ hP hD hS _ (lv_sub hl [1, 2, 0, 3] rfl)
theorem d_Mo_measure_0 : decode prog_7_method_25_code 0 = .ok (.iconst 1, 1) := by decide +kernel
theorem d_Mo_measure_1 : decode prog_7_method_25_code 1 = .ok (.aload_n 0, 1) := by decide +kernel
theorem d_Mo_measure_2 : decode prog_7_method_25_code 2 = .ok (.getfield 41, 3) := by decide +kernel
theorem d_Mo_measure_5 : decode prog_7_method_25_code 5 = .ok (.ishl, 1) := by decide +kernel
theorem d_Mo_measure_6 : decode prog_7_method_25_code 6 = .ok (.istore_n 2, 1) := by decide +kernel
theorem d_Mo_measure_7 : decode prog_7_method_25_code 7 = .ok (.iconst 0, 1) := by decide +kernel
theorem d_Mo_measure_8 : decode prog_7_method_25_code 8 = .ok (.istore_n 3, 1) := by decide +kernel
theorem d_Mo_measure_9 : decode prog_7_method_25_code 9 = .ok (.iconst 0, 1) := by decide +kernel
theorem d_Mo_measure_10 : decode prog_7_method_25_code 10 = .ok (.istore 4, 2) := by decide +kernel
theorem d_Mo_measure_12 : decode prog_7_method_25_code 12 = .ok (.iload 4, 2) := by decide +kernel
theorem d_Mo_measure_14 : decode prog_7_method_25_code 14 = .ok (.sipush 4096, 3) := by decide +kernel
theorem d_Mo_measure_17 : decode prog_7_method_25_code 17 = .ok (.if_icmp .ge 94, 3) := by decide +kernel
theorem d_Mo_measure_20 : decode prog_7_method_25_code 20 = .ok (.aload_n 0, 1) := by decide +kernel
theorem d_Mo_measure_21 : decode prog_7_method_25_code 21 = .ok (.getfield 179, 3) := by decide +kernel
theorem d_Mo_measure_24 : decode prog_7_method_25_code 24 = .ok (.iload 4, 2) := by decide +kernel
theorem d_Mo_measure_26 : decode prog_7_method_25_code 26 = .ok (.iaload, 1) := by decide +kernel
theorem d_Mo_measure_27 : decode prog_7_method_25_code 27 = .ok (.istore 5, 2) := by decide +kernel
theorem d_Mo_measure_29 : decode prog_7_method_25_code 29 = .ok (.iload 5, 2) := by decide +kernel
theorem d_Mo_measure_31 : decode prog_7_method_25_code 31 = .ok (.iload_n 2, 1) := by decide +kernel
theorem d_Mo_measure_32 : decode prog_7_method_25_code 32 = .ok (.if_icmp .lt 6, 3) := by decide +kernel
theorem d_Mo_measure_35 : decode prog_7_method_25_code 35 = .ok (.goto 70, 3) := by decide +kernel
theorem d_Mo_measure_38 : decode prog_7_method_25_code 38 = .ok (.aload_n 0, 1) := by decide +kernel
theorem d_Mo_measure_39 : decode prog_7_method_25_code 39 = .ok (.getfield 182, 3) := by decide +kernel
theorem d_Mo_measure_42 : decode prog_7_method_25_code 42 = .ok (.iload 5, 2) := by decide +kernel
theorem d_Mo_measure_44 : decode prog_7_method_25_code 44 = .ok (.iaload, 1) := by decide +kernel
theorem d_Mo_measure_45 : decode prog_7_method_25_code 45 = .ok (.aload_n 0, 1) := by decide +kernel
theorem d_Mo_measure_46 : decode prog_7_method_25_code 46 = .ok (.getfield 44, 3) := by decide +kernel
theorem d_Mo_measure_49 : decode prog_7_method_25_code 49 = .ok (.if_icmp .ne 12, 3) := by decide +kernel
theorem d_Mo_measure_52 : decode prog_7_method_25_code 52 = .ok (.aload_n 0, 1) := by decide +kernel
theorem d_Mo_measure_53 : decode prog_7_method_25_code 53 = .ok (.iload 5, 2) := by decide +kernel
theorem d_Mo_measure_55 : decode prog_7_method_25_code 55 = .ok (.invokevirtual 219, 3) := by decide +kernel
theorem d_Mo_measure_58 : decode prog_7_method_25_code 58 = .ok (.goto 4, 3) := by decide +kernel
theorem d_Mo_measure_61 : decode prog_7_method_25_code 61 = .ok (.iconst 0, 1) := by decide +kernel
theorem d_Mo_measure_62 : decode prog_7_method_25_code 62 = .ok (.istore 6, 2) := by decide +kernel
theorem d_Mo_measure_64 : decode prog_7_method_25_code 64 = .ok (.iload_n 3, 1) := by decide +kernel
theorem d_Mo_measure_65 : decode prog_7_method_25_code 65 = .ok (.ifCond .ne 8, 3) := by decide +kernel
theorem d_Mo_measure_68 : decode prog_7_method_25_code 68 = .ok (.iload 6, 2) := by decide +kernel
theorem d_Mo_measure_70 : decode prog_7_method_25_code 70 = .ok (.goto 4, 3) := by decide +kernel
theorem d_Mo_measure_73 : decode prog_7_method_25_code 73 = .ok (.iload_n 3, 1) := by decide +kernel
theorem d_Mo_measure_74 : decode prog_7_method_25_code 74 = .ok (.istore_n 3, 1) := by decide +kernel
theorem d_Mo_measure_75 : decode prog_7_method_25_code 75 = .ok (.aload_n 0, 1) := by decide +kernel
theorem d_Mo_measure_76 : decode prog_7_method_25_code 76 = .ok (.getfield 176, 3) := by decide +kernel
theorem d_Mo_measure_79 : decode prog_7_method_25_code 79 = .ok (.sipush 4096, 3) := by decide +kernel
theorem d_Mo_measure_82 : decode prog_7_method_25_code 82 = .ok (.iload_n 1, 1) := by decide +kernel
theorem d_Mo_measure_83 : decode prog_7_method_25_code 83 = .ok (.imul, 1) := by decide +kernel
theorem d_Mo_measure_84 : decode prog_7_method_25_code 84 = .ok (.iload 5, 2) := by decide +kernel
theorem d_Mo_measure_86 : decode prog_7_method_25_code 86 = .ok (.iadd, 1) := by decide +kernel
theorem d_Mo_measure_87 : decode prog_7_method_25_code 87 = .ok (.aload_n 0, 1) := by decide +kernel
theorem d_Mo_measure_88 : decode prog_7_method_25_code 88 = .ok (.getfield 38, 3) := by decide +kernel
theorem d_Mo_measure_91 : decode prog_7_method_25_code 91 = .ok (.ifCond .le 8, 3) := by decide +kernel
theorem d_Mo_measure_94 : decode prog_7_method_25_code 94 = .ok (.iload 6, 2) := by decide +kernel
theorem d_Mo_measure_96 : decode prog_7_method_25_code 96 = .ok (.goto 7, 3) := by decide +kernel
theorem d_Mo_measure_99 : decode prog_7_method_25_code 99 = .ok (.iload 6, 2) := by decide +kernel
theorem d_Mo_measure_101 : decode prog_7_method_25_code 101 = .ok (.iload_n 3, 1) := by decide +kernel
theorem d_Mo_measure_102 : decode prog_7_method_25_code 102 = .ok (.imul, 1) := by decide +kernel
theorem d_Mo_measure_103 : decode prog_7_method_25_code 103 = .ok (.i2b, 1) := by decide +kernel
theorem d_Mo_measure_104 : decode prog_7_method_25_code 104 = .ok (.bastore, 1) := by decide +kernel
theorem d_Mo_measure_105 : decode prog_7_method_25_code 105 = .ok (.iinc 4 1, 3) := by decide +kernel
theorem d_Mo_measure_108 : decode prog_7_method_25_code 108 = .ok (.goto (-96), 3) := by decide +kernel
theorem d_Mo_measure_111 : decode prog_7_method_25_code 111 = .ok (.iload_n 2, 1) := by decide +kernel
theorem d_Mo_measure_112 : decode prog_7_method_25_code 112 = .ok (.iconst 1, 1) := by decide +kernel
theorem d_Mo_measure_113 : decode prog_7_method_25_code 113 = .ok (.isub, 1) := by decide +kernel
theorem d_Mo_measure_114 : decode prog_7_method_25_code 114 = .ok (.istore 4, 2) := by decide +kernel
theorem d_Mo_measure_116 : decode prog_7_method_25_code 116 = .ok (.iload 4, 2) := by decide +kernel
theorem d_Mo_measure_118 : decode prog_7_method_25_code 118 = .ok (.ifCond .lt 132, 3) := by decide +kernel
theorem d_Mo_measure_121 : decode prog_7_method_25_code 121 = .ok (.aload_n 0, 1) := by decide +kernel
theorem d_Mo_measure_122 : decode prog_7_method_25_code 122 = .ok (.getfield 182, 3) := by decide +kernel
theorem d_Mo_measure_125 : decode prog_7_method_25_code 125 = .ok (.iload 4, 2) := by decide +kernel
theorem d_Mo_measure_127 : decode prog_7_method_25_code 127 = .ok (.iaload, 1) := by decide +kernel
theorem d_Mo_measure_128 : decode prog_7_method_25_code 128 = .ok (.aload_n 0, 1) := by decide +kernel
theorem d_Mo_measure_129 : decode prog_7_method_25_code 129 = .ok (.getfield 44, 3) := by decide +kernel
theorem d_Mo_measure_132 : decode prog_7_method_25_code 132 = .ok (.if_icmp .ne 23, 3) := by decide +kernel
theorem d_Mo_measure_135 : decode prog_7_method_25_code 135 = .ok (.aload_n 0, 1) := by decide +kernel
theorem d_Mo_measure_136 : decode prog_7_method_25_code 136 = .ok (.getfield 176, 3) := by decide +kernel
theorem d_Mo_measure_139 : decode prog_7_method_25_code 139 = .ok (.sipush 4096, 3) := by decide +kernel
theorem d_Mo_measure_142 : decode prog_7_method_25_code 142 = .ok (.iload_n 1, 1) := by decide +kernel
theorem d_Mo_measure_143 : decode prog_7_method_25_code 143 = .ok (.imul, 1) := by decide +kernel
theorem d_Mo_measure_144 : decode prog_7_method_25_code 144 = .ok (.iload 4, 2) := by decide +kernel
theorem d_Mo_measure_146 : decode prog_7_method_25_code 146 = .ok (.iadd, 1) := by decide +kernel
theorem d_Mo_measure_147 : decode prog_7_method_25_code 147 = .ok (.baload, 1) := by decide +kernel
theorem d_Mo_measure_148 : decode prog_7_method_25_code 148 = .ok (.ifCond .eq 7, 3) := by decide +kernel
theorem d_Mo_measure_151 : decode prog_7_method_25_code 151 = .ok (.iconst 1, 1) := by decide +kernel
theorem d_Mo_measure_152 : decode prog_7_method_25_code 152 = .ok (.goto 4, 3) := by decide +kernel
theorem d_Mo_measure_155 : decode prog_7_method_25_code 155 = .ok (.iconst 0, 1) := by decide +kernel
theorem d_Mo_measure_156 : decode prog_7_method_25_code 156 = .ok (.istore 5, 2) := by decide +kernel
theorem d_Mo_measure_158 : decode prog_7_method_25_code 158 = .ok (.iconst 0, 1) := by decide +kernel
theorem d_Mo_measure_159 : decode prog_7_method_25_code 159 = .ok (.istore 6, 2) := by decide +kernel
theorem d_Mo_measure_161 : decode prog_7_method_25_code 161 = .ok (.iload 6, 2) := by decide +kernel
theorem d_Mo_measure_163 : decode prog_7_method_25_code 163 = .ok (.aload_n 0, 1) := by decide +kernel
theorem d_Mo_measure_164 : decode prog_7_method_25_code 164 = .ok (.getfield 41, 3) := by decide +kernel
theorem d_Mo_measure_167 : decode prog_7_method_25_code 167 = .ok (.if_icmp .ge 53, 3) := by decide +kernel
theorem d_Mo_measure_170 : decode prog_7_method_25_code 170 = .ok (.iload 5, 2) := by decide +kernel
theorem d_Mo_measure_172 : decode prog_7_method_25_code 172 = .ok (.ifCond .ne 48, 3) := by decide +kernel
theorem d_Mo_measure_175 : decode prog_7_method_25_code 175 = .ok (.iload 4, 2) := by decide +kernel
theorem d_Mo_measure_177 : decode prog_7_method_25_code 177 = .ok (.iload 6, 2) := by decide +kernel
theorem d_Mo_measure_179 : decode prog_7_method_25_code 179 = .ok (.ishr, 1) := by decide +kernel
theorem d_Mo_measure_180 : decode prog_7_method_25_code 180 = .ok (.iconst 1, 1) := by decide +kernel
theorem d_Mo_measure_181 : decode prog_7_method_25_code 181 = .ok (.iand, 1) := by decide +kernel
theorem d_Mo_measure_182 : decode prog_7_method_25_code 182 = .ok (.ifCond .ne 29, 3) := by decide +kernel
theorem d_Mo_measure_185 : decode prog_7_method_25_code 185 = .ok (.aload_n 0, 1) := by decide +kernel
theorem d_Mo_measure_186 : decode prog_7_method_25_code 186 = .ok (.getfield 172, 3) := by decide +kernel
theorem d_Mo_measure_189 : decode prog_7_method_25_code 189 = .ok (.sipush 4096, 3) := by decide +kernel
theorem d_Mo_measure_192 : decode prog_7_method_25_code 192 = .ok (.iload_n 1, 1) := by decide +kernel
theorem d_Mo_measure_193 : decode prog_7_method_25_code 193 = .ok (.imul, 1) := by decide +kernel
theorem d_Mo_measure_194 : decode prog_7_method_25_code 194 = .ok (.iload 4, 2) := by decide +kernel
theorem d_Mo_measure_196 : decode prog_7_method_25_code 196 = .ok (.iconst 1, 1) := by decide +kernel
theorem d_Mo_measure_197 : decode prog_7_method_25_code 197 = .ok (.iload 6, 2) := by decide +kernel
theorem d_Mo_measure_199 : decode prog_7_method_25_code 199 = .ok (.ishl, 1) := by decide +kernel
theorem d_Mo_measure_200 : decode prog_7_method_25_code 200 = .ok (.ior, 1) := by decide +kernel
theorem d_Mo_measure_201 : decode prog_7_method_25_code 201 = .ok (.iadd, 1) := by decide +kernel
theorem d_Mo_measure_202 : decode prog_7_method_25_code 202 = .ok (.baload, 1) := by decide +kernel
theorem d_Mo_measure_203 : decode prog_7_method_25_code 203 = .ok (.iconst 1, 1) := by decide +kernel
theorem d_Mo_measure_204 : decode prog_7_method_25_code 204 = .ok (.if_icmp .ne 7, 3) := by decide +kernel
theorem d_Mo_measure_207 : decode prog_7_method_25_code 207 = .ok (.iconst 1, 1) := by decide +kernel
theorem d_Mo_measure_208 : decode prog_7_method_25_code 208 = .ok (.goto 4, 3) := by decide +kernel
theorem d_Mo_measure_211 : decode prog_7_method_25_code 211 = .ok (.iconst 0, 1) := by decide +kernel
theorem d_Mo_measure_212 : decode prog_7_method_25_code 212 = .ok (.istore 5, 2) := by decide +kernel
theorem d_Mo_measure_214 : decode prog_7_method_25_code 214 = .ok (.iinc 6 1, 3) := by decide +kernel
theorem d_Mo_measure_217 : decode prog_7_method_25_code 217 = .ok (.goto (-56), 3) := by decide +kernel
theorem d_Mo_measure_220 : decode prog_7_method_25_code 220 = .ok (.aload_n 0, 1) := by decide +kernel
theorem d_Mo_measure_221 : decode prog_7_method_25_code 221 = .ok (.getfield 172, 3) := by decide +kernel
theorem d_Mo_measure_224 : decode prog_7_method_25_code 224 = .ok (.sipush 4096, 3) := by decide +kernel
theorem d_Mo_measure_227 : decode prog_7_method_25_code 227 = .ok (.iload_n 1, 1) := by decide +kernel
theorem d_Mo_measure_228 : decode prog_7_method_25_code 228 = .ok (.imul, 1) := by decide +kernel
theorem d_Mo_measure_229 : decode prog_7_method_25_code 229 = .ok (.iload 4, 2) := by decide +kernel
theorem d_Mo_measure_231 : decode prog_7_method_25_code 231 = .ok (.iadd, 1) := by decide +kernel
theorem d_Mo_measure_232 : decode prog_7_method_25_code 232 = .ok (.iload 5, 2) := by decide +kernel
theorem d_Mo_measure_234 : decode prog_7_method_25_code 234 = .ok (.ifCond .eq 7, 3) := by decide +kernel
theorem d_Mo_measure_237 : decode prog_7_method_25_code 237 = .ok (.iconst 1, 1) := by decide +kernel
theorem d_Mo_measure_238 : decode prog_7_method_25_code 238 = .ok (.goto 4, 3) := by decide +kernel
theorem d_Mo_measure_241 : decode prog_7_method_25_code 241 = .ok (.iconst 0, 1) := by decide +kernel
theorem d_Mo_measure_242 : decode prog_7_method_25_code 242 = .ok (.i2b, 1) := by decide +kernel
theorem d_Mo_measure_243 : decode prog_7_method_25_code 243 = .ok (.bastore, 1) := by decide +kernel
theorem d_Mo_measure_244 : decode prog_7_method_25_code 244 = .ok (.iinc 4 (-1), 3) := by decide +kernel
theorem d_Mo_measure_247 : decode prog_7_method_25_code 247 = .ok (.goto (-131), 3) := by decide +kernel
theorem d_Mo_measure_250 : decode prog_7_method_25_code 250 = .ok (.iconst 0, 1) := by decide +kernel
theorem d_Mo_measure_251 : decode prog_7_method_25_code 251 = .ok (.istore 4, 2) := by decide +kernel
theorem d_Mo_measure_253 : decode prog_7_method_25_code 253 = .ok (.iload 4, 2) := by decide +kernel
theorem d_Mo_measure_255 : decode prog_7_method_25_code 255 = .ok (.iload_n 2, 1) := by decide +kernel
theorem d_Mo_measure_256 : decode prog_7_method_25_code 256 = .ok (.if_icmp .ge 124, 3) := by decide +kernel
theorem d_Mo_measure_259 : decode prog_7_method_25_code 259 = .ok (.aload_n 0, 1) := by decide +kernel
theorem d_Mo_measure_260 : decode prog_7_method_25_code 260 = .ok (.getfield 172, 3) := by decide +kernel
theorem d_Mo_measure_263 : decode prog_7_method_25_code 263 = .ok (.sipush 4096, 3) := by decide +kernel
theorem d_Mo_measure_266 : decode prog_7_method_25_code 266 = .ok (.iload_n 1, 1) := by decide +kernel
theorem d_Mo_measure_267 : decode prog_7_method_25_code 267 = .ok (.imul, 1) := by decide +kernel
theorem d_Mo_measure_268 : decode prog_7_method_25_code 268 = .ok (.iload 4, 2) := by decide +kernel
theorem d_Mo_measure_270 : decode prog_7_method_25_code 270 = .ok (.iadd, 1) := by decide +kernel
theorem d_Mo_measure_271 : decode prog_7_method_25_code 271 = .ok (.baload, 1) := by decide +kernel
theorem d_Mo_measure_272 : decode prog_7_method_25_code 272 = .ok (.iconst 1, 1) := by decide +kernel
theorem d_Mo_measure_273 : decode prog_7_method_25_code 273 = .ok (.if_icmp .ne 13, 3) := by decide +kernel
theorem d_Mo_measure_276 : decode prog_7_method_25_code 276 = .ok (.aload_n 0, 1) := by decide +kernel
theorem d_Mo_measure_277 : decode prog_7_method_25_code 277 = .ok (.getfield 182, 3) := by decide +kernel
theorem d_Mo_measure_280 : decode prog_7_method_25_code 280 = .ok (.iload 4, 2) := by decide +kernel
theorem d_Mo_measure_282 : decode prog_7_method_25_code 282 = .ok (.iaload, 1) := by decide +kernel
theorem d_Mo_measure_283 : decode prog_7_method_25_code 283 = .ok (.goto 4, 3) := by decide +kernel
theorem d_Mo_measure_286 : decode prog_7_method_25_code 286 = .ok (.iconst 0, 1) := by decide +kernel
theorem d_Mo_measure_287 : decode prog_7_method_25_code 287 = .ok (.istore 5, 2) := by decide +kernel
theorem d_Mo_measure_289 : decode prog_7_method_25_code 289 = .ok (.iconst 0, 1) := by decide +kernel
theorem d_Mo_measure_290 : decode prog_7_method_25_code 290 = .ok (.istore 6, 2) := by decide +kernel
theorem d_Mo_measure_292 : decode prog_7_method_25_code 292 = .ok (.iload 6, 2) := by decide +kernel
theorem d_Mo_measure_294 : decode prog_7_method_25_code 294 = .ok (.aload_n 0, 1) := by decide +kernel
theorem d_Mo_measure_295 : decode prog_7_method_25_code 295 = .ok (.getfield 41, 3) := by decide +kernel
theorem d_Mo_measure_298 : decode prog_7_method_25_code 298 = .ok (.if_icmp .ge 60, 3) := by decide +kernel
theorem d_Mo_measure_301 : decode prog_7_method_25_code 301 = .ok (.iload 4, 2) := by decide +kernel
theorem d_Mo_measure_303 : decode prog_7_method_25_code 303 = .ok (.iload 6, 2) := by decide +kernel
theorem d_Mo_measure_305 : decode prog_7_method_25_code 305 = .ok (.ishr, 1) := by decide +kernel
theorem d_Mo_measure_306 : decode prog_7_method_25_code 306 = .ok (.iconst 1, 1) := by decide +kernel
theorem d_Mo_measure_307 : decode prog_7_method_25_code 307 = .ok (.iand, 1) := by decide +kernel
theorem d_Mo_measure_308 : decode prog_7_method_25_code 308 = .ok (.iconst 1, 1) := by decide +kernel
theorem d_Mo_measure_309 : decode prog_7_method_25_code 309 = .ok (.if_icmp .ne 24, 3) := by decide +kernel
theorem d_Mo_measure_312 : decode prog_7_method_25_code 312 = .ok (.aload_n 0, 1) := by decide +kernel
theorem d_Mo_measure_313 : decode prog_7_method_25_code 313 = .ok (.getfield 172, 3) := by decide +kernel
theorem d_Mo_measure_316 : decode prog_7_method_25_code 316 = .ok (.sipush 4096, 3) := by decide +kernel
theorem d_Mo_measure_319 : decode prog_7_method_25_code 319 = .ok (.iload_n 1, 1) := by decide +kernel
theorem d_Mo_measure_320 : decode prog_7_method_25_code 320 = .ok (.imul, 1) := by decide +kernel
theorem d_Mo_measure_321 : decode prog_7_method_25_code 321 = .ok (.iload 4, 2) := by decide +kernel
theorem d_Mo_measure_323 : decode prog_7_method_25_code 323 = .ok (.iconst 1, 1) := by decide +kernel
theorem d_Mo_measure_324 : decode prog_7_method_25_code 324 = .ok (.iload 6, 2) := by decide +kernel
theorem d_Mo_measure_326 : decode prog_7_method_25_code 326 = .ok (.ishl, 1) := by decide +kernel
theorem d_Mo_measure_327 : decode prog_7_method_25_code 327 = .ok (.ixor, 1) := by decide +kernel
theorem d_Mo_measure_328 : decode prog_7_method_25_code 328 = .ok (.iadd, 1) := by decide +kernel
theorem d_Mo_measure_329 : decode prog_7_method_25_code 329 = .ok (.baload, 1) := by decide +kernel
theorem d_Mo_measure_330 : decode prog_7_method_25_code 330 = .ok (.goto 4, 3) := by decide +kernel
theorem d_Mo_measure_333 : decode prog_7_method_25_code 333 = .ok (.iconst 0, 1) := by decide +kernel
theorem d_Mo_measure_334 : decode prog_7_method_25_code 334 = .ok (.istore 7, 2) := by decide +kernel
theorem d_Mo_measure_336 : decode prog_7_method_25_code 336 = .ok (.iload 7, 2) := by decide +kernel
theorem d_Mo_measure_338 : decode prog_7_method_25_code 338 = .ok (.iload 5, 2) := by decide +kernel
theorem d_Mo_measure_340 : decode prog_7_method_25_code 340 = .ok (.if_icmp .le 8, 3) := by decide +kernel
theorem d_Mo_measure_343 : decode prog_7_method_25_code 343 = .ok (.iload 7, 2) := by decide +kernel
theorem d_Mo_measure_345 : decode prog_7_method_25_code 345 = .ok (.goto 5, 3) := by decide +kernel
theorem d_Mo_measure_348 : decode prog_7_method_25_code 348 = .ok (.iload 5, 2) := by decide +kernel
theorem d_Mo_measure_350 : decode prog_7_method_25_code 350 = .ok (.istore 5, 2) := by decide +kernel
theorem d_Mo_measure_352 : decode prog_7_method_25_code 352 = .ok (.iinc 6 1, 3) := by decide +kernel
theorem d_Mo_measure_355 : decode prog_7_method_25_code 355 = .ok (.goto (-63), 3) := by decide +kernel
theorem d_Mo_measure_358 : decode prog_7_method_25_code 358 = .ok (.aload_n 0, 1) := by decide +kernel
theorem d_Mo_measure_359 : decode prog_7_method_25_code 359 = .ok (.getfield 172, 3) := by decide +kernel
theorem d_Mo_measure_362 : decode prog_7_method_25_code 362 = .ok (.sipush 4096, 3) := by decide +kernel
theorem d_Mo_measure_365 : decode prog_7_method_25_code 365 = .ok (.iload_n 1, 1) := by decide +kernel
theorem d_Mo_measure_366 : decode prog_7_method_25_code 366 = .ok (.imul, 1) := by decide +kernel
theorem d_Mo_measure_367 : decode prog_7_method_25_code 367 = .ok (.iload 4, 2) := by decide +kernel
theorem d_Mo_measure_369 : decode prog_7_method_25_code 369 = .ok (.iadd, 1) := by decide +kernel
theorem d_Mo_measure_370 : decode prog_7_method_25_code 370 = .ok (.iload 5, 2) := by decide +kernel
theorem d_Mo_measure_372 : decode prog_7_method_25_code 372 = .ok (.i2b, 1) := by decide +kernel
theorem d_Mo_measure_373 : decode prog_7_method_25_code 373 = .ok (.bastore, 1) := by decide +kernel
theorem d_Mo_measure_374 : decode prog_7_method_25_code 374 = .ok (.iinc 4 1, 3) := by decide +kernel
theorem d_Mo_measure_377 : decode prog_7_method_25_code 377 = .ok (.goto (-124), 3) := by decide +kernel
theorem d_Mo_measure_380 : decode prog_7_method_25_code 380 = .ok (.return_, 1) := by decide +kernel
def f_R_measure (m_rows : Int32) (m_columns : Int32) (m_prime : Int32) (m_small : Nat → Int32) (m_pivots : Nat → Int32) (m_freeRows : Nat → Int32) (m_freeColumns : Nat → Int32) (m_smallMinor : Nat → Int32) (m_rankOf : Nat → Int32) (m_signOf : Nat → Int32) (m_order : Nat → Int32) (m_sizes : Nat → Int32) (pn : Nat → Int32) (pm : Nat → Int32) (pd : Nat → Nat → Int32) (k0 : Int32) : Option ((Nat → Int32) × (Nat → Int32) × (Nat → Int32) × (Nat → Int32) × (Nat → Int32) × (Nat → Int32) × (Nat → Int32) × (Nat → Nat → Int32)) :=
  ck_nm ((1 : Int32) <<< (m_columns &&& 31)) <| fun x_1 => ck_jn (fun (w_2 : Nat → Int32) (w_3 : Nat → Int32) (w_4 : Nat → Int32) (w_5 : Nat → Int32) (pn_6 : Nat → Int32) (pm_7 : Nat → Int32) (pd_8 : Nat → Nat → Int32) => ck_nm (x_1 - 1) <| fun x_9 => ck_jn (fun (w_10 : Nat → Int32) => lo2 (fun k_253 (v4_11 : Int32) (w_12 : Nat → Int32) => ck_if (x_1 ≤ v4_11) (some (w_2, w_3, w_4, w_12, w_5, pn_6, pm_7, pd_8)) (ck_in ((4096 * k0) + v4_11) 16384 <| ck_jn (fun (s0_15 : Int32) => ck_jn (fun (v5_16 : Int32) => ck_in ((4096 * k0) + v4_11) 16384 <| ck_nm (v4_11 + 1) <| fun x_18 => k_253 x_18 (upd w_12 ((4096 * k0) + v4_11).toNatClampNeg (vp_nar .byte v5_16.toInt8.toInt32))) <| fun k_358 => lo2 (fun k_292 (v6_19 : Int32) (v5_20 : Int32) => ck_if (m_columns ≤ v6_19) (k_358 v5_20) (ck_jn (fun (s0_22 : Int32) => ck_jn (fun (s0_23 : Int32) => ck_nm (v6_19 + 1) <| fun x_24 => k_292 x_24 s0_23) <| fun k_350 => ck_if (s0_22 ≤ v5_20) (k_350 v5_20) (k_350 s0_22)) <| fun k_334 => ck_if (((v4_11 >>> (v6_19 &&& 31)) &&& 1) = 1) (ck_in ((4096 * k0) + (v4_11 ^^^ ((1 : Int32) <<< (v6_19 &&& 31)))) 16384 <| k_334 (w_12 ((4096 * k0) + (v4_11 ^^^ ((1 : Int32) <<< (v6_19 &&& 31)))).toNatClampNeg)) (k_334 0))) ck_F 0 s0_15) <| fun k_287 => ck_if ((w_12 ((4096 * k0) + v4_11).toNatClampNeg) = 1) (ck_in v4_11 4096 <| k_287 (m_sizes v4_11.toNatClampNeg)) (k_287 0))) ck_F 0 w_10) <| fun k_250 => lo2 (fun k_116 (v4_30 : Int32) (w_31 : Nat → Int32) => ck_if (v4_30 < 0) (k_250 w_31) (ck_in v4_30 4096 <| ck_jn (fun (s0_34 : Int32) => ck_jn (fun (v5_35 : Int32) => ck_jn (fun (s0_36 : Int32) => ck_in ((4096 * k0) + v4_30) 16384 <| ck_nm (v4_30 + (-1)) <| fun x_38 => k_116 x_38 (upd w_31 ((4096 * k0) + v4_30).toNatClampNeg (vp_nar .byte s0_36.toInt8.toInt32))) <| fun k_242 => ck_if (v5_35 = 0) (k_242 0) (k_242 1)) <| fun k_220 => lo2 (fun k_161 (v6_40 : Int32) (v5_41 : Int32) => ck_if (m_columns ≤ v6_40) (k_220 v5_41) (ck_if (v5_41 = 0) (ck_jn (fun (s0_44 : Int32) => ck_nm (v6_40 + 1) <| fun x_45 => k_161 x_45 s0_44) <| fun k_212 => ck_jn (fun (_ : Unit) => k_212 0) <| fun k_211 => ck_if (((v4_30 >>> (v6_40 &&& 31)) &&& 1) = 0) (ck_in ((4096 * k0) + (v4_30 ||| ((1 : Int32) <<< (v6_40 &&& 31)))) 16384 <| ck_if ((w_31 ((4096 * k0) + (v4_30 ||| ((1 : Int32) <<< (v6_40 &&& 31)))).toNatClampNeg) = 1) (k_212 1) (k_211 ())) (k_211 ())) (k_220 v5_41))) ck_F 0 s0_34) <| fun k_156 => ck_jn (fun (_ : Unit) => k_156 0) <| fun k_155 => ck_if ((m_sizes v4_30.toNatClampNeg) = m_rows) (ck_in ((4096 * k0) + v4_30) 16384 <| ck_if ((w_5 ((4096 * k0) + v4_30).toNatClampNeg) = 0) (k_155 ()) (k_156 1)) (k_155 ()))) ck_F x_9 m_rankOf) <| fun k_111 => lo9 (fun k_12 (v4_52 : Int32) (v3_53 : Int32) (w_54 : Nat → Int32) (w_55 : Nat → Int32) (w_56 : Nat → Int32) (w_57 : Nat → Int32) (pn_58 : Nat → Int32) (pm_59 : Nat → Int32) (pd_60 : Nat → Nat → Int32) => ck_if (4096 ≤ v4_52) (k_111 w_54 w_55 w_56 w_57 pn_58 pm_59 pd_60) (ck_in v4_52 4096 <| ck_nm (m_order v4_52.toNatClampNeg) <| fun x_63 => ck_jn (fun (v3_64 : Int32) (w_65 : Nat → Int32) (w_66 : Nat → Int32) (w_67 : Nat → Int32) (w_68 : Nat → Int32) (pn_69 : Nat → Int32) (pm_70 : Nat → Int32) (pd_71 : Nat → Nat → Int32) => ck_nm (v4_52 + 1) <| fun x_72 => k_12 x_72 v3_64 w_65 w_66 w_67 w_68 pn_69 pm_70 pd_71) <| fun k_105 => ck_if (x_63 < x_1) (ck_in x_63 4096 <| ck_jn (fun (s0_75 : Int32) (w_76 : Nat → Int32) (w_77 : Nat → Int32) (w_78 : Nat → Int32) (pn_79 : Nat → Int32) (pm_80 : Nat → Int32) (pd_81 : Nat → Nat → Int32) => ck_jn (fun (s0_82 : Int32) => ck_jn (fun (s0_83 : Int32) => ck_in ((4096 * k0) + x_63) 16384 <| k_105 s0_82 w_76 w_77 w_78 (upd w_57 ((4096 * k0) + x_63).toNatClampNeg (vp_nar .byte s0_83.toInt8.toInt32)) pn_79 pm_80 pd_81) <| fun k_103 => ck_if (m_prime ≤ 0) (k_103 (s0_75 * s0_82)) (k_103 s0_75)) <| fun k_74 => ck_if (v3_53 = 0) (k_74 s0_75) (k_74 v3_53)) <| fun k_62 => ck_if ((m_sizes x_63.toNatClampNeg) = m_rows) (ck_b7 (f_R_minorOf m_rows m_columns m_prime m_small m_pivots w_54 w_55 w_56 pn_58 pm_59 pd_60 x_63) <| fun r_88 u_89 u_90 u_91 u_92 u_93 u_94 => k_62 r_88 u_89 u_90 u_91 u_92 u_93 u_94) (k_62 0 w_54 w_55 w_56 pn_58 pm_59 pd_60)) (k_105 v3_53 w_54 w_55 w_56 w_57 pn_58 pm_59 pd_60))) ck_F 0 0 m_freeRows m_freeColumns m_smallMinor m_signOf pn pm pd
set_option maxHeartbeats 4000000 in
set_option maxRecDepth 100000 in
theorem c_R_measure (l : Launch) (dC : Nat → ClassId) (dI : Nat → Nat → Nat) (cI cJ cB cZ cT cN : ClassId) (sz : Nat) (ha NA ND : Nat → Nat) (m_rows : Int32) (m_columns : Int32) (m_prime : Int32) (m_small : Nat → Int32) (m_pivots : Nat → Int32) (m_freeRows : Nat → Int32) (m_freeColumns : Nat → Int32) (m_smallMinor : Nat → Int32) (m_fields : Nat → Int32) (m_rowCounts : Nat → Int32) (m_elements : Nat → Int32) (m_numbers : Nat → Int32) (m_known : Nat → Int32) (m_ranks : Nat → Int32) (m_rankOf : Nat → Int32) (m_signOf : Nat → Int32) (m_order : Nat → Int32) (m_sizes : Nat → Int32) (m_coefficients : Nat → Int64) (m_choices : Nat → Int64) (m_sorted : Nat → Int32) (pn : Nat → Int32) (pm : Nat → Int32) (pd : Nat → Nat → Int32) (k0 : Int32) (r : (Nat → Int32) × (Nat → Int32) × (Nat → Int32) × (Nat → Int32) × (Nat → Int32) × (Nat → Int32) × (Nat → Int32) × (Nat → Nat → Int32)) (h : f_R_measure m_rows m_columns m_prime m_small m_pivots m_freeRows m_freeColumns m_smallMinor m_rankOf m_signOf m_order m_sizes pn pm pd k0 = some r) : Met l y_Mo_measure w_Mo_measure ({ frames := 5, cells := 0, slots := 0, locals := 132 } : Room) (va_Pc [.ref (ha 0), .int k0] (fun U => U.heap.size = sz ∧ va_P (dC, dI) cl_all (xw cI cJ cB cZ cN ha NA m_rows m_columns m_prime m_small m_pivots m_freeRows m_freeColumns m_smallMinor m_fields m_rowCounts m_elements m_numbers m_known m_ranks m_rankOf m_signOf m_order m_sizes m_coefficients m_choices m_sorted ++ po cI NA ND pn pm pd) U.heap ∧ va_K (dC, dI) cl_all [(cI, .int), (cJ, .long), (cB, .byte), (cZ, .boolean), (cT, .object "BasisWalk$Table"), (cN, .object "BasisWalkModel$Num")] U ∧ NW U ∧ va_D (fun _ => True) (xw cI cJ cB cZ cN ha NA m_rows m_columns m_prime m_small m_pivots m_freeRows m_freeColumns m_smallMinor m_fields m_rowCounts m_elements m_numbers m_known m_ranks m_rankOf m_signOf m_order m_sizes m_coefficients m_choices m_sorted ++ po cI NA ND pn pm pd))) (va_Qv (fun u : (Nat → Int32) × (Nat → Int32) × (Nat → Int32) × (Nat → Int32) × (Nat → Int32) × (Nat → Int32) × (Nat → Int32) × (Nat → Nat → Int32) => u = r) (fun (u : (Nat → Int32) × (Nat → Int32) × (Nat → Int32) × (Nat → Int32) × (Nat → Int32) × (Nat → Int32) × (Nat → Int32) × (Nat → Nat → Int32)) (t : State) => va_P (dC, dI) cl_all (xw cI cJ cB cZ cN ha NA m_rows m_columns m_prime m_small m_pivots u.1 u.2.1 u.2.2.1 m_fields m_rowCounts m_elements m_numbers m_known m_ranks u.2.2.2.1 u.2.2.2.2.1 m_order m_sizes m_coefficients m_choices m_sorted ++ po cI NA ND u.2.2.2.2.2.1 u.2.2.2.2.2.2.1 u.2.2.2.2.2.2.2) t.heap ∧ va_K (dC, dI) cl_all [(cI, .int), (cJ, .long), (cB, .byte), (cZ, .boolean), (cT, .object "BasisWalk$Table"), (cN, .object "BasisWalkModel$Num")] t ∧ va_D (va_A (xw cI cJ cB cZ cN ha NA m_rows m_columns m_prime m_small m_pivots m_freeRows m_freeColumns m_smallMinor m_fields m_rowCounts m_elements m_numbers m_known m_ranks m_rankOf m_signOf m_order m_sizes m_coefficients m_choices m_sorted ++ po cI NA ND pn pm pd) sz) (xw cI cJ cB cZ cN ha NA m_rows m_columns m_prime m_small m_pivots u.1 u.2.1 u.2.2.1 m_fields m_rowCounts m_elements m_numbers m_known m_ranks u.2.2.2.1 u.2.2.2.2.1 m_order m_sizes m_coefficients m_choices m_sorted ++ po cI NA ND u.2.2.2.2.2.1 u.2.2.2.2.2.2.1 u.2.2.2.2.2.2.2)) (va_A (xw cI cJ cB cZ cN ha NA m_rows m_columns m_prime m_small m_pivots m_freeRows m_freeColumns m_smallMinor m_fields m_rowCounts m_elements m_numbers m_known m_ranks m_rankOf m_signOf m_order m_sizes m_coefficients m_choices m_sorted ++ po cI NA ND pn pm pd) sz)) 0 0 (va_A (xw cI cJ cB cZ cN ha NA m_rows m_columns m_prime m_small m_pivots m_freeRows m_freeColumns m_smallMinor m_fields m_rowCounts m_elements m_numbers m_known m_ranks m_rankOf m_signOf m_order m_sizes m_coefficients m_choices m_sorted ++ po cI NA ND pn pm pd) sz) := by
  refine Met.ofW (cc := prog_7_method_25_code) (maxL := 8) (ret := (Option.none : Option Jvm.ClassFile.FieldType)) (by decide) rfl ?_
  intro p e s m args below meth c s₁ B hml hv
  obtain ⟨hAR, hsz, hP, hK, hN, hD0⟩ := hv
  have hx := B.exec
  have hb := B.bytes
  have hr := B.returns
  have hts := atoms_spec (ws := w_Mo_measure) B.pre
  have hown : s.vm.findClass "BasisWalkModel" = some m.cls := findClass_of_methodNamed B.named
  have hlocks := B.notSynchronized
  clear B
  subst hsz
  have hD := hD0.self (sz := s.heap.size)
  generalize hAe : va_A (xw cI cJ cB cZ cN ha NA m_rows m_columns m_prime m_small m_pivots m_freeRows m_freeColumns m_smallMinor m_fields m_rowCounts m_elements m_numbers m_known m_ranks m_rankOf m_signOf m_order m_sizes m_coefficients m_choices m_sorted ++ po cI NA ND pn pm pd) s.heap.size = A at hD ⊢
  have hA : ∀ q : Nat, s.heap.size ≤ q → A q := fun q h => by rw [← hAe]; exact Or.inr h
  clear hAe hD0
  have hS : va_S A s.heap s.heap [] := va_S.rf
  have hl := lv_entry ([.ref (ha 0), .int k0]) (n := 8) (Nat.le_of_ble_eq_true rfl)
  subst hAR
  rw [lg_entry_eq]
  generalize (lg_sl ([.ref (ha 0), .int k0]) ++ List.replicate (8 - (lg_sl ([.ref (ha 0), .int k0])).length) Slot.unset).toArray = ls at hl ⊢
  have hl : lv_has ls 8 [(0, .ref (ha 0)), (1, .int k0)] := hl
  change W p l e ({ frames := 5, cells := 0, slots := 0, locals := 132 } : Room) s m _ below meth c s.heap [] 0 0 _ _
  generalize hARe : ([.ref (ha 0), .int k0] : List Value).toArray = AR at hts ⊢
  clear hARe
  generalize hQ : MQ below _ AR s 0 0 A = QQ
  have fl0 := hts _ (List.mem_cons_of_mem _ tw_366)
  have iw1 := (fun w hw => List.mem_cons_of_mem _ (in_Mo w hw) : ∀ w ∈ u_ws "BasisWalkModel" T_Mo 31, w ∈ w_Mo_measure)
  have fl2 := hts _ (List.mem_cons_of_mem _ tw_379)
  have fl3 := hts _ (List.mem_cons_of_mem _ tw_382)
  have fl4 := hts _ (List.mem_cons_of_mem _ tw_365)
  have fl5 := hts _ (List.mem_cons_of_mem _ tw_380)
  have fl6 := hts _ (List.mem_cons_of_mem _ tw_381)
  have fl7 := hts _ (List.mem_cons_of_mem _ tw_367)
  obtain ⟨H, hHe⟩ : ∃ H : Heap, H = s.heap := ⟨_, rfl⟩
  rw [← hHe] at hP ⊢
  replace hS : va_S A s.heap H [] := by rw [hHe]; exact va_S.rf
  clear hHe
  unfold f_R_measure at h
  refine lv_iconst (v := 1) hx hb d_Mo_measure_0 (by decide) ?_
  refine lv_aload_n hx hb d_Mo_measure_1 rfl (lv_at hl 0 rfl) ?_
  refine va_get (D := (dC, dI)) (ci := 6) (v := .int m_columns) (C := "BasisWalkModel") (T := T_Mo) (N := 31) hx hb hts iw1 hown hK hP 0 rfl rfl 11 (by decide) fl0 (fun _ h9 => h9) rfl d_Mo_measure_2 ?_
  refine lv_ishl hx hb d_Mo_measure_5 ?_
  refine lv_topi (fun x_1 ex_1 => ?_)
  replace h := ck_nm_s h ex_1
  refine lv_istore_n (lv' := [(2, .int x_1), (0, .ref (ha 0)), (1, .int k0)]) hx hb d_Mo_measure_6 rfl hl (by decide) rfl (fun ls hl => ?_)
  refine lv_iconst (v := 0) hx hb d_Mo_measure_7 (by decide) ?_
  refine lv_istore_n (lv' := [(3, .int 0), (2, .int x_1), (0, .ref (ha 0)), (1, .int k0)]) hx hb d_Mo_measure_8 rfl hl (by decide) rfl (fun ls hl => ?_)
  refine lv_iconst (v := 0) hx hb d_Mo_measure_9 (by decide) ?_
  refine lv_istore (lv' := [(4, .int 0), (3, .int 0), (2, .int x_1), (0, .ref (ha 0)), (1, .int k0)]) hx hb d_Mo_measure_10 hl (by decide) rfl (fun ls hl => ?_)
  refine ck_jn_W h (fun k' => ∀ (w_2 : Nat → Int32) (w_3 : Nat → Int32) (w_4 : Nat → Int32) (w_5 : Nat → Int32) (pn_6 : Nat → Int32) (pm_7 : Nat → Int32) (pd_8 : Nat → Nat → Int32), k' w_2 w_3 w_4 w_5 pn_6 pm_7 pd_8 = some r → ∀ (H : Heap) (locs : List Loc), va_P (dC, dI) cl_all (xw cI cJ cB cZ cN ha NA m_rows m_columns m_prime m_small m_pivots w_2 w_3 w_4 m_fields m_rowCounts m_elements m_numbers m_known m_ranks m_rankOf w_5 m_order m_sizes m_coefficients m_choices m_sorted ++ po cI NA ND pn_6 pm_7 pd_8) H → va_D A (xw cI cJ cB cZ cN ha NA m_rows m_columns m_prime m_small m_pivots w_2 w_3 w_4 m_fields m_rowCounts m_elements m_numbers m_known m_ranks m_rankOf w_5 m_order m_sizes m_coefficients m_choices m_sorted ++ po cI NA ND pn_6 pm_7 pd_8) → va_S A s.heap H locs → ∀ ls : Array Slot, lv_has ls 8 [(0, .ref (ha 0)), (1, .int k0), (2, .int x_1)] → W p l e ({ frames := 5, cells := 0, slots := 0, locals := 132 } : Room) s m AR below meth c H locs 0 0 QQ (F0 m 111 ls [])) ?_ ?_
  · intro w_2 w_3 w_4 w_5 pn_6 pm_7 pd_8 h H locs hP hD hS ls hl
    refine lv_iload_n hx hb d_Mo_measure_111 rfl (lv_at hl 2 rfl) ?_
    refine lv_iconst (v := 1) hx hb d_Mo_measure_112 (by decide) ?_
    refine lv_isub hx hb d_Mo_measure_113 ?_
    refine lv_topi (fun x_9 ex_9 => ?_)
    replace h := ck_nm_s h ex_9
    refine lv_istore (lv' := [(4, .int x_9), (0, .ref (ha 0)), (1, .int k0), (2, .int x_1)]) hx hb d_Mo_measure_114 hl (by decide) rfl (fun ls hl => ?_)
    refine ck_jn_W h (fun k' => ∀ (w_10 : Nat → Int32), k' w_10 = some r → ∀ (H : Heap) (locs : List Loc), va_P (dC, dI) cl_all (xw cI cJ cB cZ cN ha NA m_rows m_columns m_prime m_small m_pivots w_2 w_3 w_4 m_fields m_rowCounts m_elements m_numbers m_known m_ranks w_10 w_5 m_order m_sizes m_coefficients m_choices m_sorted ++ po cI NA ND pn_6 pm_7 pd_8) H → va_D A (xw cI cJ cB cZ cN ha NA m_rows m_columns m_prime m_small m_pivots w_2 w_3 w_4 m_fields m_rowCounts m_elements m_numbers m_known m_ranks w_10 w_5 m_order m_sizes m_coefficients m_choices m_sorted ++ po cI NA ND pn_6 pm_7 pd_8) → va_S A s.heap H locs → ∀ ls : Array Slot, lv_has ls 8 [(0, .ref (ha 0)), (1, .int k0), (2, .int x_1)] → W p l e ({ frames := 5, cells := 0, slots := 0, locals := 132 } : Room) s m AR below meth c H locs 0 0 QQ (F0 m 250 ls [])) ?_ ?_
    · intro w_10 h H locs hP hD hS ls hl
      refine lv_iconst (v := 0) hx hb d_Mo_measure_250 (by decide) ?_
      refine lv_istore (lv' := [(4, .int 0), (0, .ref (ha 0)), (1, .int k0), (2, .int x_1)]) hx hb d_Mo_measure_251 hl (by decide) rfl (fun ls hl => ?_)
      refine lo2_W (r := r) (fun (v4_11 : Int32) (w_12 : Nat → Int32) => ∀ (H : Heap) (locs : List Loc), va_P (dC, dI) cl_all (xw cI cJ cB cZ cN ha NA m_rows m_columns m_prime m_small m_pivots w_2 w_3 w_4 m_fields m_rowCounts m_elements m_numbers m_known m_ranks w_12 w_5 m_order m_sizes m_coefficients m_choices m_sorted ++ po cI NA ND pn_6 pm_7 pd_8) H → va_D A (xw cI cJ cB cZ cN ha NA m_rows m_columns m_prime m_small m_pivots w_2 w_3 w_4 m_fields m_rowCounts m_elements m_numbers m_known m_ranks w_12 w_5 m_order m_sizes m_coefficients m_choices m_sorted ++ po cI NA ND pn_6 pm_7 pd_8) → va_S A s.heap H locs → ∀ ls : Array Slot, lv_has ls 8 [(0, .ref (ha 0)), (1, .int k0), (2, .int x_1), (4, .int v4_11)] → W p l e ({ frames := 5, cells := 0, slots := 0, locals := 132 } : Room) s m AR below meth c H locs 0 0 QQ (F0 m 253 ls [])) ?_ _ _ _ h _ _ hP hD hS _ (lv_sub hl [1, 2, 3, 0] rfl)
      intro k_253 v4_11 w_12 J_253 h H locs hP hD hS ls hl
      refine lv_iload hx hb d_Mo_measure_253 (lv_at hl 3 rfl) ?_
      refine lv_iload_n hx hb d_Mo_measure_255 rfl (lv_at hl 2 rfl) ?_
      refine lv_icmp_ge (tgt := 380) hx hb d_Mo_measure_256 (by decide) (fun c_13 => ?_) (fun c_13 => ?_)
      · replace h := ck_if_t h c_13
        obtain rfl := Option.some.inj h
        subst hQ
        exact W.vret hx hb hr (fun t ht hW => ⟨⟨(w_2, w_3, w_4, w_12, w_5, pn_6, pm_7, pd_8), rfl, rfl, by rw [ht]; exact hP, va_K.moved hW.alike hK, hD⟩, hS.F ht⟩) hS.2.2 d_Mo_measure_380
      · replace h := ck_if_f h c_13
        refine lv_aload_n hx hb d_Mo_measure_259 rfl (lv_at hl 0 rfl) ?_
        refine va_get (D := (dC, dI)) (ci := 6) (v := .ref (ha 14)) (C := "BasisWalkModel") (T := T_Mo) (N := 31) hx hb hts iw1 hown hK hP 0 rfl rfl 24 (by decide) fl2 (fun _ h9 => h9) rfl d_Mo_measure_260 ?_
        refine lv_sipush (v := 4096) hx hb d_Mo_measure_263 (by decide) ?_
        refine lv_iload_n hx hb d_Mo_measure_266 rfl (lv_at hl 1 rfl) ?_
        refine lv_imul hx hb d_Mo_measure_267 ?_
        refine lv_iload hx hb d_Mo_measure_268 (lv_at hl 3 rfl) ?_
        refine lv_iadd hx hb d_Mo_measure_270 ?_
        obtain ⟨g_14, h⟩ := ck_in_s h
        refine va_bald hx hb hK hP 14 2 rfl rfl g_14 d_Mo_measure_271 ?_
        refine lv_iconst (v := 1) hx hb d_Mo_measure_272 (by decide) ?_
        refine ck_jn_W h (fun k' => ∀ (s0_15 : Int32), k' s0_15 = some r → ∀ (H : Heap) (locs : List Loc), va_P (dC, dI) cl_all (xw cI cJ cB cZ cN ha NA m_rows m_columns m_prime m_small m_pivots w_2 w_3 w_4 m_fields m_rowCounts m_elements m_numbers m_known m_ranks w_12 w_5 m_order m_sizes m_coefficients m_choices m_sorted ++ po cI NA ND pn_6 pm_7 pd_8) H → va_D A (xw cI cJ cB cZ cN ha NA m_rows m_columns m_prime m_small m_pivots w_2 w_3 w_4 m_fields m_rowCounts m_elements m_numbers m_known m_ranks w_12 w_5 m_order m_sizes m_coefficients m_choices m_sorted ++ po cI NA ND pn_6 pm_7 pd_8) → va_S A s.heap H locs → ∀ ls : Array Slot, lv_has ls 8 [(0, .ref (ha 0)), (1, .int k0), (2, .int x_1), (4, .int v4_11)] → W p l e ({ frames := 5, cells := 0, slots := 0, locals := 132 } : Room) s m AR below meth c H locs 0 0 QQ (F0 m 287 ls [.int s0_15])) ?_ ?_
        · intro s0_15 h H locs hP hD hS ls hl
          refine lv_istore (lv' := [(5, .int s0_15), (0, .ref (ha 0)), (1, .int k0), (2, .int x_1), (4, .int v4_11)]) hx hb d_Mo_measure_287 hl (by decide) rfl (fun ls hl => ?_)
          refine lv_iconst (v := 0) hx hb d_Mo_measure_289 (by decide) ?_
          refine lv_istore (lv' := [(6, .int 0), (5, .int s0_15), (0, .ref (ha 0)), (1, .int k0), (2, .int x_1), (4, .int v4_11)]) hx hb d_Mo_measure_290 hl (by decide) rfl (fun ls hl => ?_)
          refine ck_jn_W h (fun k' => ∀ (v5_16 : Int32), k' v5_16 = some r → ∀ (H : Heap) (locs : List Loc), va_P (dC, dI) cl_all (xw cI cJ cB cZ cN ha NA m_rows m_columns m_prime m_small m_pivots w_2 w_3 w_4 m_fields m_rowCounts m_elements m_numbers m_known m_ranks w_12 w_5 m_order m_sizes m_coefficients m_choices m_sorted ++ po cI NA ND pn_6 pm_7 pd_8) H → va_D A (xw cI cJ cB cZ cN ha NA m_rows m_columns m_prime m_small m_pivots w_2 w_3 w_4 m_fields m_rowCounts m_elements m_numbers m_known m_ranks w_12 w_5 m_order m_sizes m_coefficients m_choices m_sorted ++ po cI NA ND pn_6 pm_7 pd_8) → va_S A s.heap H locs → ∀ ls : Array Slot, lv_has ls 8 [(0, .ref (ha 0)), (1, .int k0), (2, .int x_1), (4, .int v4_11), (5, .int v5_16)] → W p l e ({ frames := 5, cells := 0, slots := 0, locals := 132 } : Room) s m AR below meth c H locs 0 0 QQ (F0 m 358 ls [])) ?_ ?_
          · intro v5_16 h H locs hP hD hS ls hl
            refine lv_aload_n hx hb d_Mo_measure_358 rfl (lv_at hl 0 rfl) ?_
            refine va_get (D := (dC, dI)) (ci := 6) (v := .ref (ha 14)) (C := "BasisWalkModel") (T := T_Mo) (N := 31) hx hb hts iw1 hown hK hP 0 rfl rfl 24 (by decide) fl2 (fun _ h9 => h9) rfl d_Mo_measure_359 ?_
            refine lv_sipush (v := 4096) hx hb d_Mo_measure_362 (by decide) ?_
            refine lv_iload_n hx hb d_Mo_measure_365 rfl (lv_at hl 1 rfl) ?_
            refine lv_imul hx hb d_Mo_measure_366 ?_
            refine lv_iload hx hb d_Mo_measure_367 (lv_at hl 3 rfl) ?_
            refine lv_iadd hx hb d_Mo_measure_369 ?_
            refine lv_iload hx hb d_Mo_measure_370 (lv_at hl 4 rfl) ?_
            refine lv_i2b hx hb d_Mo_measure_372 rfl ?_
            obtain ⟨g_17, h⟩ := ck_in_s h
            refine va_bast hx hb hK hP hD hS 14 2 rfl rfl g_17 d_Mo_measure_373 (fun H locs hP hD hS => ?_)
            have hP : va_P (dC, dI) cl_all (xw cI cJ cB cZ cN ha NA m_rows m_columns m_prime m_small m_pivots w_2 w_3 w_4 m_fields m_rowCounts m_elements m_numbers m_known m_ranks (upd w_12 ((4096 * k0) + v4_11).toNatClampNeg (vp_nar .byte v5_16.toInt8.toInt32)) w_5 m_order m_sizes m_coefficients m_choices m_sorted ++ po cI NA ND pn_6 pm_7 pd_8) H := hP
            have hD : va_D A (xw cI cJ cB cZ cN ha NA m_rows m_columns m_prime m_small m_pivots w_2 w_3 w_4 m_fields m_rowCounts m_elements m_numbers m_known m_ranks (upd w_12 ((4096 * k0) + v4_11).toNatClampNeg (vp_nar .byte v5_16.toInt8.toInt32)) w_5 m_order m_sizes m_coefficients m_choices m_sorted ++ po cI NA ND pn_6 pm_7 pd_8) := hD
            obtain ⟨x_18, ex_18⟩ : ∃ y : Int32, y = v4_11 + 1 := ⟨_, rfl⟩
            replace h := ck_nm_s h ex_18
            refine lv_iinc (v := x_18) (lv' := [(4, .int x_18), (0, .ref (ha 0)), (1, .int k0), (2, .int x_1), (5, .int v5_16)]) hx hb d_Mo_measure_374 hl (k := 3) rfl (by rw [ex_18]; rfl) (by decide) rfl (fun ls hl => ?_)
            refine lv_goto (tgt := 253) hx hb d_Mo_measure_377 (by decide) ?_
            exact J_253 _ _ h _ _ hP hD hS _ (lv_sub hl [1, 2, 3, 0] rfl)
          · intro k_358 J_358 h
            refine lo2_W (r := r) (fun (v6_19 : Int32) (v5_20 : Int32) => ∀ (H : Heap) (locs : List Loc), va_P (dC, dI) cl_all (xw cI cJ cB cZ cN ha NA m_rows m_columns m_prime m_small m_pivots w_2 w_3 w_4 m_fields m_rowCounts m_elements m_numbers m_known m_ranks w_12 w_5 m_order m_sizes m_coefficients m_choices m_sorted ++ po cI NA ND pn_6 pm_7 pd_8) H → va_D A (xw cI cJ cB cZ cN ha NA m_rows m_columns m_prime m_small m_pivots w_2 w_3 w_4 m_fields m_rowCounts m_elements m_numbers m_known m_ranks w_12 w_5 m_order m_sizes m_coefficients m_choices m_sorted ++ po cI NA ND pn_6 pm_7 pd_8) → va_S A s.heap H locs → ∀ ls : Array Slot, lv_has ls 8 [(0, .ref (ha 0)), (1, .int k0), (2, .int x_1), (4, .int v4_11), (5, .int v5_20), (6, .int v6_19)] → W p l e ({ frames := 5, cells := 0, slots := 0, locals := 132 } : Room) s m AR below meth c H locs 0 0 QQ (F0 m 292 ls [])) ?_ _ _ _ h _ _ hP hD hS _ (lv_sub hl [2, 3, 4, 5, 1, 0] rfl)
            intro k_292 v6_19 v5_20 J_292 h H locs hP hD hS ls hl
            refine lv_iload hx hb d_Mo_measure_292 (lv_at hl 5 rfl) ?_
            refine lv_aload_n hx hb d_Mo_measure_294 rfl (lv_at hl 0 rfl) ?_
            refine va_get (D := (dC, dI)) (ci := 6) (v := .int m_columns) (C := "BasisWalkModel") (T := T_Mo) (N := 31) hx hb hts iw1 hown hK hP 0 rfl rfl 11 (by decide) fl0 (fun _ h9 => h9) rfl d_Mo_measure_295 ?_
            refine lv_icmp_ge (tgt := 358) hx hb d_Mo_measure_298 (by decide) (fun c_21 => ?_) (fun c_21 => ?_)
            · replace h := ck_if_t h c_21
              exact J_358 _ h _ _ hP hD hS _ (lv_sub hl [0, 1, 2, 3, 4] rfl)
            · replace h := ck_if_f h c_21
              refine lv_iload hx hb d_Mo_measure_301 (lv_at hl 3 rfl) ?_
              refine lv_iload hx hb d_Mo_measure_303 (lv_at hl 5 rfl) ?_
              refine lv_ishr hx hb d_Mo_measure_305 ?_
              refine lv_iconst (v := 1) hx hb d_Mo_measure_306 (by decide) ?_
              refine lv_iand hx hb d_Mo_measure_307 ?_
              refine lv_iconst (v := 1) hx hb d_Mo_measure_308 (by decide) ?_
              refine ck_jn_W h (fun k' => ∀ (s0_22 : Int32), k' s0_22 = some r → ∀ (H : Heap) (locs : List Loc), va_P (dC, dI) cl_all (xw cI cJ cB cZ cN ha NA m_rows m_columns m_prime m_small m_pivots w_2 w_3 w_4 m_fields m_rowCounts m_elements m_numbers m_known m_ranks w_12 w_5 m_order m_sizes m_coefficients m_choices m_sorted ++ po cI NA ND pn_6 pm_7 pd_8) H → va_D A (xw cI cJ cB cZ cN ha NA m_rows m_columns m_prime m_small m_pivots w_2 w_3 w_4 m_fields m_rowCounts m_elements m_numbers m_known m_ranks w_12 w_5 m_order m_sizes m_coefficients m_choices m_sorted ++ po cI NA ND pn_6 pm_7 pd_8) → va_S A s.heap H locs → ∀ ls : Array Slot, lv_has ls 8 [(0, .ref (ha 0)), (1, .int k0), (2, .int x_1), (4, .int v4_11), (5, .int v5_20), (6, .int v6_19)] → W p l e ({ frames := 5, cells := 0, slots := 0, locals := 132 } : Room) s m AR below meth c H locs 0 0 QQ (F0 m 334 ls [.int s0_22])) ?_ ?_
              · intro s0_22 h H locs hP hD hS ls hl
                refine lv_istore (lv' := [(7, .int s0_22), (0, .ref (ha 0)), (1, .int k0), (2, .int x_1), (4, .int v4_11), (5, .int v5_20), (6, .int v6_19)]) hx hb d_Mo_measure_334 hl (by decide) rfl (fun ls hl => ?_)
                refine lv_iload hx hb d_Mo_measure_336 (lv_at hl 0 rfl) ?_
                refine lv_iload hx hb d_Mo_measure_338 (lv_at hl 5 rfl) ?_
                refine ck_jn_W h (fun k' => ∀ (s0_23 : Int32), k' s0_23 = some r → ∀ (H : Heap) (locs : List Loc), va_P (dC, dI) cl_all (xw cI cJ cB cZ cN ha NA m_rows m_columns m_prime m_small m_pivots w_2 w_3 w_4 m_fields m_rowCounts m_elements m_numbers m_known m_ranks w_12 w_5 m_order m_sizes m_coefficients m_choices m_sorted ++ po cI NA ND pn_6 pm_7 pd_8) H → va_D A (xw cI cJ cB cZ cN ha NA m_rows m_columns m_prime m_small m_pivots w_2 w_3 w_4 m_fields m_rowCounts m_elements m_numbers m_known m_ranks w_12 w_5 m_order m_sizes m_coefficients m_choices m_sorted ++ po cI NA ND pn_6 pm_7 pd_8) → va_S A s.heap H locs → ∀ ls : Array Slot, lv_has ls 8 [(0, .ref (ha 0)), (1, .int k0), (2, .int x_1), (4, .int v4_11), (6, .int v6_19)] → W p l e ({ frames := 5, cells := 0, slots := 0, locals := 132 } : Room) s m AR below meth c H locs 0 0 QQ (F0 m 350 ls [.int s0_23])) ?_ ?_
                · intro s0_23 h H locs hP hD hS ls hl
                  refine lv_istore (lv' := [(5, .int s0_23), (0, .ref (ha 0)), (1, .int k0), (2, .int x_1), (4, .int v4_11), (6, .int v6_19)]) hx hb d_Mo_measure_350 hl (by decide) rfl (fun ls hl => ?_)
                  obtain ⟨x_24, ex_24⟩ : ∃ y : Int32, y = v6_19 + 1 := ⟨_, rfl⟩
                  replace h := ck_nm_s h ex_24
                  refine lv_iinc (v := x_24) (lv' := [(6, .int x_24), (5, .int s0_23), (0, .ref (ha 0)), (1, .int k0), (2, .int x_1), (4, .int v4_11)]) hx hb d_Mo_measure_352 hl (k := 5) rfl (by rw [ex_24]; rfl) (by decide) rfl (fun ls hl => ?_)
                  refine lv_goto (tgt := 292) hx hb d_Mo_measure_355 (by decide) ?_
                  exact J_292 _ _ h _ _ hP hD hS _ (lv_sub hl [2, 3, 4, 5, 1, 0] rfl)
                · intro k_350 J_350 h
                  refine lv_icmp_le (tgt := 348) hx hb d_Mo_measure_340 (by decide) (fun c_25 => ?_) (fun c_25 => ?_)
                  · replace h := ck_if_t h c_25
                    refine lv_iload hx hb d_Mo_measure_348 (lv_at hl 5 rfl) ?_
                    exact J_350 _ h _ _ hP hD hS _ (lv_sub hl [1, 2, 3, 4, 6] rfl)
                  · replace h := ck_if_f h c_25
                    refine lv_iload hx hb d_Mo_measure_343 (lv_at hl 0 rfl) ?_
                    refine lv_goto (tgt := 350) hx hb d_Mo_measure_345 (by decide) ?_
                    exact J_350 _ h _ _ hP hD hS _ (lv_sub hl [1, 2, 3, 4, 6] rfl)
              · intro k_334 J_334 h
                refine lv_icmp_ne (tgt := 333) hx hb d_Mo_measure_309 (by decide) (fun c_26 => ?_) (fun c_26 => ?_)
                · replace h := ck_if_f h c_26
                  refine lv_iconst (v := 0) hx hb d_Mo_measure_333 (by decide) ?_
                  exact J_334 _ h _ _ hP hD hS _ (lv_sub hl [0, 1, 2, 3, 4, 5] rfl)
                · replace h := ck_if_t h c_26
                  refine lv_aload_n hx hb d_Mo_measure_312 rfl (lv_at hl 0 rfl) ?_
                  refine va_get (D := (dC, dI)) (ci := 6) (v := .ref (ha 14)) (C := "BasisWalkModel") (T := T_Mo) (N := 31) hx hb hts iw1 hown hK hP 0 rfl rfl 24 (by decide) fl2 (fun _ h9 => h9) rfl d_Mo_measure_313 ?_
                  refine lv_sipush (v := 4096) hx hb d_Mo_measure_316 (by decide) ?_
                  refine lv_iload_n hx hb d_Mo_measure_319 rfl (lv_at hl 1 rfl) ?_
                  refine lv_imul hx hb d_Mo_measure_320 ?_
                  refine lv_iload hx hb d_Mo_measure_321 (lv_at hl 3 rfl) ?_
                  refine lv_iconst (v := 1) hx hb d_Mo_measure_323 (by decide) ?_
                  refine lv_iload hx hb d_Mo_measure_324 (lv_at hl 5 rfl) ?_
                  refine lv_ishl hx hb d_Mo_measure_326 ?_
                  refine lv_ixor hx hb d_Mo_measure_327 ?_
                  refine lv_iadd hx hb d_Mo_measure_328 ?_
                  obtain ⟨g_27, h⟩ := ck_in_s h
                  refine va_bald hx hb hK hP 14 2 rfl rfl g_27 d_Mo_measure_329 ?_
                  refine lv_goto (tgt := 334) hx hb d_Mo_measure_330 (by decide) ?_
                  exact J_334 _ h _ _ hP hD hS _ (lv_sub hl [0, 1, 2, 3, 4, 5] rfl)
        · intro k_287 J_287 h
          refine lv_icmp_ne (tgt := 286) hx hb d_Mo_measure_273 (by decide) (fun c_28 => ?_) (fun c_28 => ?_)
          · replace h := ck_if_f h c_28
            refine lv_iconst (v := 0) hx hb d_Mo_measure_286 (by decide) ?_
            exact J_287 _ h _ _ hP hD hS _ (lv_sub hl [0, 1, 2, 3] rfl)
          · replace h := ck_if_t h c_28
            refine lv_aload_n hx hb d_Mo_measure_276 rfl (lv_at hl 0 rfl) ?_
            refine va_get (D := (dC, dI)) (ci := 6) (v := .ref (ha 17)) (C := "BasisWalkModel") (T := T_Mo) (N := 31) hx hb hts iw1 hown hK hP 0 rfl rfl 27 (by decide) fl3 (fun _ h9 => h9) rfl d_Mo_measure_277 ?_
            refine lv_iload hx hb d_Mo_measure_280 (lv_at hl 3 rfl) ?_
            obtain ⟨g_29, h⟩ := ck_in_s h
            refine va_iald hx hb hK hP 17 0 rfl rfl g_29 d_Mo_measure_282 ?_
            refine lv_goto (tgt := 287) hx hb d_Mo_measure_283 (by decide) ?_
            exact J_287 _ h _ _ hP hD hS _ (lv_sub hl [0, 1, 2, 3] rfl)
    · intro k_250 J_250 h
      refine lo2_W (r := r) (fun (v4_30 : Int32) (w_31 : Nat → Int32) => ∀ (H : Heap) (locs : List Loc), va_P (dC, dI) cl_all (xw cI cJ cB cZ cN ha NA m_rows m_columns m_prime m_small m_pivots w_2 w_3 w_4 m_fields m_rowCounts m_elements m_numbers m_known m_ranks w_31 w_5 m_order m_sizes m_coefficients m_choices m_sorted ++ po cI NA ND pn_6 pm_7 pd_8) H → va_D A (xw cI cJ cB cZ cN ha NA m_rows m_columns m_prime m_small m_pivots w_2 w_3 w_4 m_fields m_rowCounts m_elements m_numbers m_known m_ranks w_31 w_5 m_order m_sizes m_coefficients m_choices m_sorted ++ po cI NA ND pn_6 pm_7 pd_8) → va_S A s.heap H locs → ∀ ls : Array Slot, lv_has ls 8 [(0, .ref (ha 0)), (1, .int k0), (2, .int x_1), (4, .int v4_30)] → W p l e ({ frames := 5, cells := 0, slots := 0, locals := 132 } : Room) s m AR below meth c H locs 0 0 QQ (F0 m 116 ls [])) ?_ _ _ _ h _ _ hP hD hS _ (lv_sub hl [1, 2, 3, 0] rfl)
      intro k_116 v4_30 w_31 J_116 h H locs hP hD hS ls hl
      refine lv_iload hx hb d_Mo_measure_116 (lv_at hl 3 rfl) ?_
      refine lv_if_lt (tgt := 250) hx hb d_Mo_measure_118 (by decide) (fun c_32 => ?_) (fun c_32 => ?_)
      · replace h := ck_if_t h c_32
        exact J_250 _ h _ _ hP hD hS _ (lv_sub hl [0, 1, 2] rfl)
      · replace h := ck_if_f h c_32
        refine lv_aload_n hx hb d_Mo_measure_121 rfl (lv_at hl 0 rfl) ?_
        refine va_get (D := (dC, dI)) (ci := 6) (v := .ref (ha 17)) (C := "BasisWalkModel") (T := T_Mo) (N := 31) hx hb hts iw1 hown hK hP 0 rfl rfl 27 (by decide) fl3 (fun _ h9 => h9) rfl d_Mo_measure_122 ?_
        refine lv_iload hx hb d_Mo_measure_125 (lv_at hl 3 rfl) ?_
        obtain ⟨g_33, h⟩ := ck_in_s h
        refine va_iald hx hb hK hP 17 0 rfl rfl g_33 d_Mo_measure_127 ?_
        refine lv_aload_n hx hb d_Mo_measure_128 rfl (lv_at hl 0 rfl) ?_
        refine va_get (D := (dC, dI)) (ci := 6) (v := .int m_rows) (C := "BasisWalkModel") (T := T_Mo) (N := 31) hx hb hts iw1 hown hK hP 0 rfl rfl 10 (by decide) fl4 (fun _ h9 => h9) rfl d_Mo_measure_129 ?_
        refine ck_jn_W h (fun k' => ∀ (s0_34 : Int32), k' s0_34 = some r → ∀ (H : Heap) (locs : List Loc), va_P (dC, dI) cl_all (xw cI cJ cB cZ cN ha NA m_rows m_columns m_prime m_small m_pivots w_2 w_3 w_4 m_fields m_rowCounts m_elements m_numbers m_known m_ranks w_31 w_5 m_order m_sizes m_coefficients m_choices m_sorted ++ po cI NA ND pn_6 pm_7 pd_8) H → va_D A (xw cI cJ cB cZ cN ha NA m_rows m_columns m_prime m_small m_pivots w_2 w_3 w_4 m_fields m_rowCounts m_elements m_numbers m_known m_ranks w_31 w_5 m_order m_sizes m_coefficients m_choices m_sorted ++ po cI NA ND pn_6 pm_7 pd_8) → va_S A s.heap H locs → ∀ ls : Array Slot, lv_has ls 8 [(0, .ref (ha 0)), (1, .int k0), (2, .int x_1), (4, .int v4_30)] → W p l e ({ frames := 5, cells := 0, slots := 0, locals := 132 } : Room) s m AR below meth c H locs 0 0 QQ (F0 m 156 ls [.int s0_34])) ?_ ?_
        · intro s0_34 h H locs hP hD hS ls hl
          refine lv_istore (lv' := [(5, .int s0_34), (0, .ref (ha 0)), (1, .int k0), (2, .int x_1), (4, .int v4_30)]) hx hb d_Mo_measure_156 hl (by decide) rfl (fun ls hl => ?_)
          refine lv_iconst (v := 0) hx hb d_Mo_measure_158 (by decide) ?_
          refine lv_istore (lv' := [(6, .int 0), (5, .int s0_34), (0, .ref (ha 0)), (1, .int k0), (2, .int x_1), (4, .int v4_30)]) hx hb d_Mo_measure_159 hl (by decide) rfl (fun ls hl => ?_)
          refine ck_jn_W h (fun k' => ∀ (v5_35 : Int32), k' v5_35 = some r → ∀ (H : Heap) (locs : List Loc), va_P (dC, dI) cl_all (xw cI cJ cB cZ cN ha NA m_rows m_columns m_prime m_small m_pivots w_2 w_3 w_4 m_fields m_rowCounts m_elements m_numbers m_known m_ranks w_31 w_5 m_order m_sizes m_coefficients m_choices m_sorted ++ po cI NA ND pn_6 pm_7 pd_8) H → va_D A (xw cI cJ cB cZ cN ha NA m_rows m_columns m_prime m_small m_pivots w_2 w_3 w_4 m_fields m_rowCounts m_elements m_numbers m_known m_ranks w_31 w_5 m_order m_sizes m_coefficients m_choices m_sorted ++ po cI NA ND pn_6 pm_7 pd_8) → va_S A s.heap H locs → ∀ ls : Array Slot, lv_has ls 8 [(0, .ref (ha 0)), (1, .int k0), (2, .int x_1), (4, .int v4_30), (5, .int v5_35)] → W p l e ({ frames := 5, cells := 0, slots := 0, locals := 132 } : Room) s m AR below meth c H locs 0 0 QQ (F0 m 220 ls [])) ?_ ?_
          · intro v5_35 h H locs hP hD hS ls hl
            refine lv_aload_n hx hb d_Mo_measure_220 rfl (lv_at hl 0 rfl) ?_
            refine va_get (D := (dC, dI)) (ci := 6) (v := .ref (ha 14)) (C := "BasisWalkModel") (T := T_Mo) (N := 31) hx hb hts iw1 hown hK hP 0 rfl rfl 24 (by decide) fl2 (fun _ h9 => h9) rfl d_Mo_measure_221 ?_
            refine lv_sipush (v := 4096) hx hb d_Mo_measure_224 (by decide) ?_
            refine lv_iload_n hx hb d_Mo_measure_227 rfl (lv_at hl 1 rfl) ?_
            refine lv_imul hx hb d_Mo_measure_228 ?_
            refine lv_iload hx hb d_Mo_measure_229 (lv_at hl 3 rfl) ?_
            refine lv_iadd hx hb d_Mo_measure_231 ?_
            refine lv_iload hx hb d_Mo_measure_232 (lv_at hl 4 rfl) ?_
            refine ck_jn_W h (fun k' => ∀ (s0_36 : Int32), k' s0_36 = some r → ∀ (H : Heap) (locs : List Loc), va_P (dC, dI) cl_all (xw cI cJ cB cZ cN ha NA m_rows m_columns m_prime m_small m_pivots w_2 w_3 w_4 m_fields m_rowCounts m_elements m_numbers m_known m_ranks w_31 w_5 m_order m_sizes m_coefficients m_choices m_sorted ++ po cI NA ND pn_6 pm_7 pd_8) H → va_D A (xw cI cJ cB cZ cN ha NA m_rows m_columns m_prime m_small m_pivots w_2 w_3 w_4 m_fields m_rowCounts m_elements m_numbers m_known m_ranks w_31 w_5 m_order m_sizes m_coefficients m_choices m_sorted ++ po cI NA ND pn_6 pm_7 pd_8) → va_S A s.heap H locs → ∀ ls : Array Slot, lv_has ls 8 [(0, .ref (ha 0)), (1, .int k0), (2, .int x_1), (4, .int v4_30)] → W p l e ({ frames := 5, cells := 0, slots := 0, locals := 132 } : Room) s m AR below meth c H locs 0 0 QQ (F0 m 242 ls [.int s0_36, .int ((4096 * k0) + v4_30), .ref (ha 14)])) ?_ ?_
            · intro s0_36 h H locs hP hD hS ls hl
              refine lv_i2b hx hb d_Mo_measure_242 rfl ?_
              obtain ⟨g_37, h⟩ := ck_in_s h
              refine va_bast hx hb hK hP hD hS 14 2 rfl rfl g_37 d_Mo_measure_243 (fun H locs hP hD hS => ?_)
              have hP : va_P (dC, dI) cl_all (xw cI cJ cB cZ cN ha NA m_rows m_columns m_prime m_small m_pivots w_2 w_3 w_4 m_fields m_rowCounts m_elements m_numbers m_known m_ranks (upd w_31 ((4096 * k0) + v4_30).toNatClampNeg (vp_nar .byte s0_36.toInt8.toInt32)) w_5 m_order m_sizes m_coefficients m_choices m_sorted ++ po cI NA ND pn_6 pm_7 pd_8) H := hP
              have hD : va_D A (xw cI cJ cB cZ cN ha NA m_rows m_columns m_prime m_small m_pivots w_2 w_3 w_4 m_fields m_rowCounts m_elements m_numbers m_known m_ranks (upd w_31 ((4096 * k0) + v4_30).toNatClampNeg (vp_nar .byte s0_36.toInt8.toInt32)) w_5 m_order m_sizes m_coefficients m_choices m_sorted ++ po cI NA ND pn_6 pm_7 pd_8) := hD
              obtain ⟨x_38, ex_38⟩ : ∃ y : Int32, y = v4_30 + (-1) := ⟨_, rfl⟩
              replace h := ck_nm_s h ex_38
              refine lv_iinc (v := x_38) (lv' := [(4, .int x_38), (0, .ref (ha 0)), (1, .int k0), (2, .int x_1)]) hx hb d_Mo_measure_244 hl (k := 3) rfl (by rw [ex_38]; rfl) (by decide) rfl (fun ls hl => ?_)
              refine lv_goto (tgt := 116) hx hb d_Mo_measure_247 (by decide) ?_
              exact J_116 _ _ h _ _ hP hD hS _ (lv_sub hl [1, 2, 3, 0] rfl)
            · intro k_242 J_242 h
              refine lv_if_eq (tgt := 241) hx hb d_Mo_measure_234 (by decide) (fun c_39 => ?_) (fun c_39 => ?_)
              · replace h := ck_if_t h c_39
                refine lv_iconst (v := 0) hx hb d_Mo_measure_241 (by decide) ?_
                exact J_242 _ h _ _ hP hD hS _ (lv_sub hl [0, 1, 2, 3] rfl)
              · replace h := ck_if_f h c_39
                refine lv_iconst (v := 1) hx hb d_Mo_measure_237 (by decide) ?_
                refine lv_goto (tgt := 242) hx hb d_Mo_measure_238 (by decide) ?_
                exact J_242 _ h _ _ hP hD hS _ (lv_sub hl [0, 1, 2, 3] rfl)
          · intro k_220 J_220 h
            refine lo2_W (r := r) (fun (v6_40 : Int32) (v5_41 : Int32) => ∀ (H : Heap) (locs : List Loc), va_P (dC, dI) cl_all (xw cI cJ cB cZ cN ha NA m_rows m_columns m_prime m_small m_pivots w_2 w_3 w_4 m_fields m_rowCounts m_elements m_numbers m_known m_ranks w_31 w_5 m_order m_sizes m_coefficients m_choices m_sorted ++ po cI NA ND pn_6 pm_7 pd_8) H → va_D A (xw cI cJ cB cZ cN ha NA m_rows m_columns m_prime m_small m_pivots w_2 w_3 w_4 m_fields m_rowCounts m_elements m_numbers m_known m_ranks w_31 w_5 m_order m_sizes m_coefficients m_choices m_sorted ++ po cI NA ND pn_6 pm_7 pd_8) → va_S A s.heap H locs → ∀ ls : Array Slot, lv_has ls 8 [(0, .ref (ha 0)), (1, .int k0), (2, .int x_1), (4, .int v4_30), (5, .int v5_41), (6, .int v6_40)] → W p l e ({ frames := 5, cells := 0, slots := 0, locals := 132 } : Room) s m AR below meth c H locs 0 0 QQ (F0 m 161 ls [])) ?_ _ _ _ h _ _ hP hD hS _ (lv_sub hl [2, 3, 4, 5, 1, 0] rfl)
            intro k_161 v6_40 v5_41 J_161 h H locs hP hD hS ls hl
            refine lv_iload hx hb d_Mo_measure_161 (lv_at hl 5 rfl) ?_
            refine lv_aload_n hx hb d_Mo_measure_163 rfl (lv_at hl 0 rfl) ?_
            refine va_get (D := (dC, dI)) (ci := 6) (v := .int m_columns) (C := "BasisWalkModel") (T := T_Mo) (N := 31) hx hb hts iw1 hown hK hP 0 rfl rfl 11 (by decide) fl0 (fun _ h9 => h9) rfl d_Mo_measure_164 ?_
            refine lv_icmp_ge (tgt := 220) hx hb d_Mo_measure_167 (by decide) (fun c_42 => ?_) (fun c_42 => ?_)
            · replace h := ck_if_t h c_42
              exact J_220 _ h _ _ hP hD hS _ (lv_sub hl [0, 1, 2, 3, 4] rfl)
            · replace h := ck_if_f h c_42
              refine lv_iload hx hb d_Mo_measure_170 (lv_at hl 4 rfl) ?_
              refine lv_if_ne (tgt := 220) hx hb d_Mo_measure_172 (by decide) (fun c_43 => ?_) (fun c_43 => ?_)
              · replace h := ck_if_f h c_43
                exact J_220 _ h _ _ hP hD hS _ (lv_sub hl [0, 1, 2, 3, 4] rfl)
              · replace h := ck_if_t h c_43
                refine lv_iload hx hb d_Mo_measure_175 (lv_at hl 3 rfl) ?_
                refine lv_iload hx hb d_Mo_measure_177 (lv_at hl 5 rfl) ?_
                refine lv_ishr hx hb d_Mo_measure_179 ?_
                refine lv_iconst (v := 1) hx hb d_Mo_measure_180 (by decide) ?_
                refine lv_iand hx hb d_Mo_measure_181 ?_
                refine ck_jn_W h (fun k' => ∀ (s0_44 : Int32), k' s0_44 = some r → ∀ (H : Heap) (locs : List Loc), va_P (dC, dI) cl_all (xw cI cJ cB cZ cN ha NA m_rows m_columns m_prime m_small m_pivots w_2 w_3 w_4 m_fields m_rowCounts m_elements m_numbers m_known m_ranks w_31 w_5 m_order m_sizes m_coefficients m_choices m_sorted ++ po cI NA ND pn_6 pm_7 pd_8) H → va_D A (xw cI cJ cB cZ cN ha NA m_rows m_columns m_prime m_small m_pivots w_2 w_3 w_4 m_fields m_rowCounts m_elements m_numbers m_known m_ranks w_31 w_5 m_order m_sizes m_coefficients m_choices m_sorted ++ po cI NA ND pn_6 pm_7 pd_8) → va_S A s.heap H locs → ∀ ls : Array Slot, lv_has ls 8 [(0, .ref (ha 0)), (1, .int k0), (2, .int x_1), (4, .int v4_30), (6, .int v6_40)] → W p l e ({ frames := 5, cells := 0, slots := 0, locals := 132 } : Room) s m AR below meth c H locs 0 0 QQ (F0 m 212 ls [.int s0_44])) ?_ ?_
                · intro s0_44 h H locs hP hD hS ls hl
                  refine lv_istore (lv' := [(5, .int s0_44), (0, .ref (ha 0)), (1, .int k0), (2, .int x_1), (4, .int v4_30), (6, .int v6_40)]) hx hb d_Mo_measure_212 hl (by decide) rfl (fun ls hl => ?_)
                  obtain ⟨x_45, ex_45⟩ : ∃ y : Int32, y = v6_40 + 1 := ⟨_, rfl⟩
                  replace h := ck_nm_s h ex_45
                  refine lv_iinc (v := x_45) (lv' := [(6, .int x_45), (5, .int s0_44), (0, .ref (ha 0)), (1, .int k0), (2, .int x_1), (4, .int v4_30)]) hx hb d_Mo_measure_214 hl (k := 5) rfl (by rw [ex_45]; rfl) (by decide) rfl (fun ls hl => ?_)
                  refine lv_goto (tgt := 161) hx hb d_Mo_measure_217 (by decide) ?_
                  exact J_161 _ _ h _ _ hP hD hS _ (lv_sub hl [2, 3, 4, 5, 1, 0] rfl)
                · intro k_212 J_212 h
                  refine ck_jn_W h (fun k' => ∀ u : Unit, k' u = some r → ∀ (H : Heap) (locs : List Loc), va_P (dC, dI) cl_all (xw cI cJ cB cZ cN ha NA m_rows m_columns m_prime m_small m_pivots w_2 w_3 w_4 m_fields m_rowCounts m_elements m_numbers m_known m_ranks w_31 w_5 m_order m_sizes m_coefficients m_choices m_sorted ++ po cI NA ND pn_6 pm_7 pd_8) H → va_D A (xw cI cJ cB cZ cN ha NA m_rows m_columns m_prime m_small m_pivots w_2 w_3 w_4 m_fields m_rowCounts m_elements m_numbers m_known m_ranks w_31 w_5 m_order m_sizes m_coefficients m_choices m_sorted ++ po cI NA ND pn_6 pm_7 pd_8) → va_S A s.heap H locs → ∀ ls : Array Slot, lv_has ls 8 [(0, .ref (ha 0)), (1, .int k0), (2, .int x_1), (4, .int v4_30), (6, .int v6_40)] → W p l e ({ frames := 5, cells := 0, slots := 0, locals := 132 } : Room) s m AR below meth c H locs 0 0 QQ (F0 m 211 ls [])) ?_ ?_
                  · intro _ h H locs hP hD hS ls hl
                    refine lv_iconst (v := 0) hx hb d_Mo_measure_211 (by decide) ?_
                    exact J_212 _ h _ _ hP hD hS _ (lv_sub hl [0, 1, 2, 3, 4] rfl)
                  · intro k_211 J_211 h
                    refine lv_if_ne (tgt := 211) hx hb d_Mo_measure_182 (by decide) (fun c_46 => ?_) (fun c_46 => ?_)
                    · replace h := ck_if_f h c_46
                      exact J_211 _ h _ _ hP hD hS _ (lv_sub hl [0, 1, 2, 3, 5] rfl)
                    · replace h := ck_if_t h c_46
                      refine lv_aload_n hx hb d_Mo_measure_185 rfl (lv_at hl 0 rfl) ?_
                      refine va_get (D := (dC, dI)) (ci := 6) (v := .ref (ha 14)) (C := "BasisWalkModel") (T := T_Mo) (N := 31) hx hb hts iw1 hown hK hP 0 rfl rfl 24 (by decide) fl2 (fun _ h9 => h9) rfl d_Mo_measure_186 ?_
                      refine lv_sipush (v := 4096) hx hb d_Mo_measure_189 (by decide) ?_
                      refine lv_iload_n hx hb d_Mo_measure_192 rfl (lv_at hl 1 rfl) ?_
                      refine lv_imul hx hb d_Mo_measure_193 ?_
                      refine lv_iload hx hb d_Mo_measure_194 (lv_at hl 3 rfl) ?_
                      refine lv_iconst (v := 1) hx hb d_Mo_measure_196 (by decide) ?_
                      refine lv_iload hx hb d_Mo_measure_197 (lv_at hl 5 rfl) ?_
                      refine lv_ishl hx hb d_Mo_measure_199 ?_
                      refine lv_ior hx hb d_Mo_measure_200 ?_
                      refine lv_iadd hx hb d_Mo_measure_201 ?_
                      obtain ⟨g_47, h⟩ := ck_in_s h
                      refine va_bald hx hb hK hP 14 2 rfl rfl g_47 d_Mo_measure_202 ?_
                      refine lv_iconst (v := 1) hx hb d_Mo_measure_203 (by decide) ?_
                      refine lv_icmp_ne (tgt := 211) hx hb d_Mo_measure_204 (by decide) (fun c_48 => ?_) (fun c_48 => ?_)
                      · replace h := ck_if_f h c_48
                        exact J_211 _ h _ _ hP hD hS _ (lv_sub hl [0, 1, 2, 3, 5] rfl)
                      · replace h := ck_if_t h c_48
                        refine lv_iconst (v := 1) hx hb d_Mo_measure_207 (by decide) ?_
                        refine lv_goto (tgt := 212) hx hb d_Mo_measure_208 (by decide) ?_
                        exact J_212 _ h _ _ hP hD hS _ (lv_sub hl [0, 1, 2, 3, 5] rfl)
        · intro k_156 J_156 h
          refine ck_jn_W h (fun k' => ∀ u : Unit, k' u = some r → ∀ (H : Heap) (locs : List Loc), va_P (dC, dI) cl_all (xw cI cJ cB cZ cN ha NA m_rows m_columns m_prime m_small m_pivots w_2 w_3 w_4 m_fields m_rowCounts m_elements m_numbers m_known m_ranks w_31 w_5 m_order m_sizes m_coefficients m_choices m_sorted ++ po cI NA ND pn_6 pm_7 pd_8) H → va_D A (xw cI cJ cB cZ cN ha NA m_rows m_columns m_prime m_small m_pivots w_2 w_3 w_4 m_fields m_rowCounts m_elements m_numbers m_known m_ranks w_31 w_5 m_order m_sizes m_coefficients m_choices m_sorted ++ po cI NA ND pn_6 pm_7 pd_8) → va_S A s.heap H locs → ∀ ls : Array Slot, lv_has ls 8 [(0, .ref (ha 0)), (1, .int k0), (2, .int x_1), (4, .int v4_30)] → W p l e ({ frames := 5, cells := 0, slots := 0, locals := 132 } : Room) s m AR below meth c H locs 0 0 QQ (F0 m 155 ls [])) ?_ ?_
          · intro _ h H locs hP hD hS ls hl
            refine lv_iconst (v := 0) hx hb d_Mo_measure_155 (by decide) ?_
            exact J_156 _ h _ _ hP hD hS _ (lv_sub hl [0, 1, 2, 3] rfl)
          · intro k_155 J_155 h
            refine lv_icmp_ne (tgt := 155) hx hb d_Mo_measure_132 (by decide) (fun c_49 => ?_) (fun c_49 => ?_)
            · replace h := ck_if_f h c_49
              exact J_155 _ h _ _ hP hD hS _ (lv_sub hl [0, 1, 2, 3] rfl)
            · replace h := ck_if_t h c_49
              refine lv_aload_n hx hb d_Mo_measure_135 rfl (lv_at hl 0 rfl) ?_
              refine va_get (D := (dC, dI)) (ci := 6) (v := .ref (ha 15)) (C := "BasisWalkModel") (T := T_Mo) (N := 31) hx hb hts iw1 hown hK hP 0 rfl rfl 25 (by decide) fl5 (fun _ h9 => h9) rfl d_Mo_measure_136 ?_
              refine lv_sipush (v := 4096) hx hb d_Mo_measure_139 (by decide) ?_
              refine lv_iload_n hx hb d_Mo_measure_142 rfl (lv_at hl 1 rfl) ?_
              refine lv_imul hx hb d_Mo_measure_143 ?_
              refine lv_iload hx hb d_Mo_measure_144 (lv_at hl 3 rfl) ?_
              refine lv_iadd hx hb d_Mo_measure_146 ?_
              obtain ⟨g_50, h⟩ := ck_in_s h
              refine va_bald hx hb hK hP 15 2 rfl rfl g_50 d_Mo_measure_147 ?_
              refine lv_if_eq (tgt := 155) hx hb d_Mo_measure_148 (by decide) (fun c_51 => ?_) (fun c_51 => ?_)
              · replace h := ck_if_t h c_51
                exact J_155 _ h _ _ hP hD hS _ (lv_sub hl [0, 1, 2, 3] rfl)
              · replace h := ck_if_f h c_51
                refine lv_iconst (v := 1) hx hb d_Mo_measure_151 (by decide) ?_
                refine lv_goto (tgt := 156) hx hb d_Mo_measure_152 (by decide) ?_
                exact J_156 _ h _ _ hP hD hS _ (lv_sub hl [0, 1, 2, 3] rfl)
  · intro k_111 J_111 h
    refine lo9_W (r := r) (fun (v4_52 : Int32) (v3_53 : Int32) (w_54 : Nat → Int32) (w_55 : Nat → Int32) (w_56 : Nat → Int32) (w_57 : Nat → Int32) (pn_58 : Nat → Int32) (pm_59 : Nat → Int32) (pd_60 : Nat → Nat → Int32) => ∀ (H : Heap) (locs : List Loc), va_P (dC, dI) cl_all (xw cI cJ cB cZ cN ha NA m_rows m_columns m_prime m_small m_pivots w_54 w_55 w_56 m_fields m_rowCounts m_elements m_numbers m_known m_ranks m_rankOf w_57 m_order m_sizes m_coefficients m_choices m_sorted ++ po cI NA ND pn_58 pm_59 pd_60) H → va_D A (xw cI cJ cB cZ cN ha NA m_rows m_columns m_prime m_small m_pivots w_54 w_55 w_56 m_fields m_rowCounts m_elements m_numbers m_known m_ranks m_rankOf w_57 m_order m_sizes m_coefficients m_choices m_sorted ++ po cI NA ND pn_58 pm_59 pd_60) → va_S A s.heap H locs → ∀ ls : Array Slot, lv_has ls 8 [(0, .ref (ha 0)), (1, .int k0), (2, .int x_1), (3, .int v3_53), (4, .int v4_52)] → W p l e ({ frames := 5, cells := 0, slots := 0, locals := 132 } : Room) s m AR below meth c H locs 0 0 QQ (F0 m 12 ls [])) ?_ _ _ _ _ _ _ _ _ _ _ h _ _ hP hD hS _ (lv_sub hl [3, 4, 2, 1, 0] rfl)
    intro k_12 v4_52 v3_53 w_54 w_55 w_56 w_57 pn_58 pm_59 pd_60 J_12 h H locs hP hD hS ls hl
    refine lv_iload hx hb d_Mo_measure_12 (lv_at hl 4 rfl) ?_
    refine lv_sipush (v := 4096) hx hb d_Mo_measure_14 (by decide) ?_
    refine lv_icmp_ge (tgt := 111) hx hb d_Mo_measure_17 (by decide) (fun c_61 => ?_) (fun c_61 => ?_)
    · replace h := ck_if_t h c_61
      exact J_111 _ _ _ _ _ _ _ h _ _ hP hD hS _ (lv_sub hl [0, 1, 2] rfl)
    · replace h := ck_if_f h c_61
      refine lv_aload_n hx hb d_Mo_measure_20 rfl (lv_at hl 0 rfl) ?_
      refine va_get (D := (dC, dI)) (ci := 6) (v := .ref (ha 16)) (C := "BasisWalkModel") (T := T_Mo) (N := 31) hx hb hts iw1 hown hK hP 0 rfl rfl 26 (by decide) fl6 (fun _ h9 => h9) rfl d_Mo_measure_21 ?_
      refine lv_iload hx hb d_Mo_measure_24 (lv_at hl 4 rfl) ?_
      obtain ⟨g_62, h⟩ := ck_in_s h
      refine va_iald hx hb hK hP 16 0 rfl rfl g_62 d_Mo_measure_26 ?_
      refine lv_topi (fun x_63 ex_63 => ?_)
      replace h := ck_nm_s h ex_63
      refine lv_istore (lv' := [(5, .int x_63), (0, .ref (ha 0)), (1, .int k0), (2, .int x_1), (3, .int v3_53), (4, .int v4_52)]) hx hb d_Mo_measure_27 hl (by decide) rfl (fun ls hl => ?_)
      refine lv_iload hx hb d_Mo_measure_29 (lv_at hl 0 rfl) ?_
      refine lv_iload_n hx hb d_Mo_measure_31 rfl (lv_at hl 3 rfl) ?_
      refine ck_jn_W h (fun k' => ∀ (v3_64 : Int32) (w_65 : Nat → Int32) (w_66 : Nat → Int32) (w_67 : Nat → Int32) (w_68 : Nat → Int32) (pn_69 : Nat → Int32) (pm_70 : Nat → Int32) (pd_71 : Nat → Nat → Int32), k' v3_64 w_65 w_66 w_67 w_68 pn_69 pm_70 pd_71 = some r → ∀ (H : Heap) (locs : List Loc), va_P (dC, dI) cl_all (xw cI cJ cB cZ cN ha NA m_rows m_columns m_prime m_small m_pivots w_65 w_66 w_67 m_fields m_rowCounts m_elements m_numbers m_known m_ranks m_rankOf w_68 m_order m_sizes m_coefficients m_choices m_sorted ++ po cI NA ND pn_69 pm_70 pd_71) H → va_D A (xw cI cJ cB cZ cN ha NA m_rows m_columns m_prime m_small m_pivots w_65 w_66 w_67 m_fields m_rowCounts m_elements m_numbers m_known m_ranks m_rankOf w_68 m_order m_sizes m_coefficients m_choices m_sorted ++ po cI NA ND pn_69 pm_70 pd_71) → va_S A s.heap H locs → ∀ ls : Array Slot, lv_has ls 8 [(0, .ref (ha 0)), (1, .int k0), (2, .int x_1), (3, .int v3_64), (4, .int v4_52)] → W p l e ({ frames := 5, cells := 0, slots := 0, locals := 132 } : Room) s m AR below meth c H locs 0 0 QQ (F0 m 105 ls [])) ?_ ?_
      · intro v3_64 w_65 w_66 w_67 w_68 pn_69 pm_70 pd_71 h H locs hP hD hS ls hl
        obtain ⟨x_72, ex_72⟩ : ∃ y : Int32, y = v4_52 + 1 := ⟨_, rfl⟩
        replace h := ck_nm_s h ex_72
        refine lv_iinc (v := x_72) (lv' := [(4, .int x_72), (0, .ref (ha 0)), (1, .int k0), (2, .int x_1), (3, .int v3_64)]) hx hb d_Mo_measure_105 hl (k := 4) rfl (by rw [ex_72]; rfl) (by decide) rfl (fun ls hl => ?_)
        refine lv_goto (tgt := 12) hx hb d_Mo_measure_108 (by decide) ?_
        exact J_12 _ _ _ _ _ _ _ _ _ h _ _ hP hD hS _ (lv_sub hl [1, 2, 3, 4, 0] rfl)
      · intro k_105 J_105 h
        refine lv_icmp_lt (tgt := 38) hx hb d_Mo_measure_32 (by decide) (fun c_73 => ?_) (fun c_73 => ?_)
        · replace h := ck_if_t h c_73
          refine lv_aload_n hx hb d_Mo_measure_38 rfl (lv_at hl 1 rfl) ?_
          refine va_get (D := (dC, dI)) (ci := 6) (v := .ref (ha 17)) (C := "BasisWalkModel") (T := T_Mo) (N := 31) hx hb hts iw1 hown hK hP 0 rfl rfl 27 (by decide) fl3 (fun _ h9 => h9) rfl d_Mo_measure_39 ?_
          refine lv_iload hx hb d_Mo_measure_42 (lv_at hl 0 rfl) ?_
          obtain ⟨g_74, h⟩ := ck_in_s h
          refine va_iald hx hb hK hP 17 0 rfl rfl g_74 d_Mo_measure_44 ?_
          refine lv_aload_n hx hb d_Mo_measure_45 rfl (lv_at hl 1 rfl) ?_
          refine va_get (D := (dC, dI)) (ci := 6) (v := .int m_rows) (C := "BasisWalkModel") (T := T_Mo) (N := 31) hx hb hts iw1 hown hK hP 0 rfl rfl 10 (by decide) fl4 (fun _ h9 => h9) rfl d_Mo_measure_46 ?_
          refine ck_jn_W h (fun k' => ∀ (s0_75 : Int32) (w_76 : Nat → Int32) (w_77 : Nat → Int32) (w_78 : Nat → Int32) (pn_79 : Nat → Int32) (pm_80 : Nat → Int32) (pd_81 : Nat → Nat → Int32), k' s0_75 w_76 w_77 w_78 pn_79 pm_80 pd_81 = some r → ∀ (H : Heap) (locs : List Loc), va_P (dC, dI) cl_all (xw cI cJ cB cZ cN ha NA m_rows m_columns m_prime m_small m_pivots w_76 w_77 w_78 m_fields m_rowCounts m_elements m_numbers m_known m_ranks m_rankOf w_57 m_order m_sizes m_coefficients m_choices m_sorted ++ po cI NA ND pn_79 pm_80 pd_81) H → va_D A (xw cI cJ cB cZ cN ha NA m_rows m_columns m_prime m_small m_pivots w_76 w_77 w_78 m_fields m_rowCounts m_elements m_numbers m_known m_ranks m_rankOf w_57 m_order m_sizes m_coefficients m_choices m_sorted ++ po cI NA ND pn_79 pm_80 pd_81) → va_S A s.heap H locs → ∀ ls : Array Slot, lv_has ls 8 [(0, .ref (ha 0)), (1, .int k0), (2, .int x_1), (3, .int v3_53), (4, .int v4_52), (5, .int x_63)] → W p l e ({ frames := 5, cells := 0, slots := 0, locals := 132 } : Room) s m AR below meth c H locs 0 0 QQ (F0 m 62 ls [.int s0_75])) ?_ ?_
          · intro s0_75 w_76 w_77 w_78 pn_79 pm_80 pd_81 h H locs hP hD hS ls hl
            refine lv_istore (lv' := [(6, .int s0_75), (0, .ref (ha 0)), (1, .int k0), (2, .int x_1), (3, .int v3_53), (4, .int v4_52), (5, .int x_63)]) hx hb d_Mo_measure_62 hl (by decide) rfl (fun ls hl => ?_)
            refine lv_iload_n hx hb d_Mo_measure_64 rfl (lv_at hl 4 rfl) ?_
            refine ck_jn_W h (fun k' => ∀ (s0_82 : Int32), k' s0_82 = some r → ∀ (H : Heap) (locs : List Loc), va_P (dC, dI) cl_all (xw cI cJ cB cZ cN ha NA m_rows m_columns m_prime m_small m_pivots w_76 w_77 w_78 m_fields m_rowCounts m_elements m_numbers m_known m_ranks m_rankOf w_57 m_order m_sizes m_coefficients m_choices m_sorted ++ po cI NA ND pn_79 pm_80 pd_81) H → va_D A (xw cI cJ cB cZ cN ha NA m_rows m_columns m_prime m_small m_pivots w_76 w_77 w_78 m_fields m_rowCounts m_elements m_numbers m_known m_ranks m_rankOf w_57 m_order m_sizes m_coefficients m_choices m_sorted ++ po cI NA ND pn_79 pm_80 pd_81) → va_S A s.heap H locs → ∀ ls : Array Slot, lv_has ls 8 [(0, .ref (ha 0)), (1, .int k0), (2, .int x_1), (4, .int v4_52), (5, .int x_63), (6, .int s0_75)] → W p l e ({ frames := 5, cells := 0, slots := 0, locals := 132 } : Room) s m AR below meth c H locs 0 0 QQ (F0 m 74 ls [.int s0_82])) ?_ ?_
            · intro s0_82 h H locs hP hD hS ls hl
              refine lv_istore_n (lv' := [(3, .int s0_82), (0, .ref (ha 0)), (1, .int k0), (2, .int x_1), (4, .int v4_52), (5, .int x_63), (6, .int s0_75)]) hx hb d_Mo_measure_74 rfl hl (by decide) rfl (fun ls hl => ?_)
              refine lv_aload_n hx hb d_Mo_measure_75 rfl (lv_at hl 1 rfl) ?_
              refine va_get (D := (dC, dI)) (ci := 6) (v := .ref (ha 15)) (C := "BasisWalkModel") (T := T_Mo) (N := 31) hx hb hts iw1 hown hK hP 0 rfl rfl 25 (by decide) fl5 (fun _ h9 => h9) rfl d_Mo_measure_76 ?_
              refine lv_sipush (v := 4096) hx hb d_Mo_measure_79 (by decide) ?_
              refine lv_iload_n hx hb d_Mo_measure_82 rfl (lv_at hl 2 rfl) ?_
              refine lv_imul hx hb d_Mo_measure_83 ?_
              refine lv_iload hx hb d_Mo_measure_84 (lv_at hl 5 rfl) ?_
              refine lv_iadd hx hb d_Mo_measure_86 ?_
              refine lv_aload_n hx hb d_Mo_measure_87 rfl (lv_at hl 1 rfl) ?_
              refine va_get (D := (dC, dI)) (ci := 6) (v := .int m_prime) (C := "BasisWalkModel") (T := T_Mo) (N := 31) hx hb hts iw1 hown hK hP 0 rfl rfl 12 (by decide) fl7 (fun _ h9 => h9) rfl d_Mo_measure_88 ?_
              refine ck_jn_W h (fun k' => ∀ (s0_83 : Int32), k' s0_83 = some r → ∀ (H : Heap) (locs : List Loc), va_P (dC, dI) cl_all (xw cI cJ cB cZ cN ha NA m_rows m_columns m_prime m_small m_pivots w_76 w_77 w_78 m_fields m_rowCounts m_elements m_numbers m_known m_ranks m_rankOf w_57 m_order m_sizes m_coefficients m_choices m_sorted ++ po cI NA ND pn_79 pm_80 pd_81) H → va_D A (xw cI cJ cB cZ cN ha NA m_rows m_columns m_prime m_small m_pivots w_76 w_77 w_78 m_fields m_rowCounts m_elements m_numbers m_known m_ranks m_rankOf w_57 m_order m_sizes m_coefficients m_choices m_sorted ++ po cI NA ND pn_79 pm_80 pd_81) → va_S A s.heap H locs → ∀ ls : Array Slot, lv_has ls 8 [(0, .ref (ha 0)), (1, .int k0), (2, .int x_1), (3, .int s0_82), (4, .int v4_52)] → W p l e ({ frames := 5, cells := 0, slots := 0, locals := 132 } : Room) s m AR below meth c H locs 0 0 QQ (F0 m 103 ls [.int s0_83, .int ((4096 * k0) + x_63), .ref (ha 15)])) ?_ ?_
              · intro s0_83 h H locs hP hD hS ls hl
                refine lv_i2b hx hb d_Mo_measure_103 rfl ?_
                obtain ⟨g_84, h⟩ := ck_in_s h
                refine va_bast hx hb hK hP hD hS 15 2 rfl rfl g_84 d_Mo_measure_104 (fun H locs hP hD hS => ?_)
                have hP : va_P (dC, dI) cl_all (xw cI cJ cB cZ cN ha NA m_rows m_columns m_prime m_small m_pivots w_76 w_77 w_78 m_fields m_rowCounts m_elements m_numbers m_known m_ranks m_rankOf (upd w_57 ((4096 * k0) + x_63).toNatClampNeg (vp_nar .byte s0_83.toInt8.toInt32)) m_order m_sizes m_coefficients m_choices m_sorted ++ po cI NA ND pn_79 pm_80 pd_81) H := hP
                have hD : va_D A (xw cI cJ cB cZ cN ha NA m_rows m_columns m_prime m_small m_pivots w_76 w_77 w_78 m_fields m_rowCounts m_elements m_numbers m_known m_ranks m_rankOf (upd w_57 ((4096 * k0) + x_63).toNatClampNeg (vp_nar .byte s0_83.toInt8.toInt32)) m_order m_sizes m_coefficients m_choices m_sorted ++ po cI NA ND pn_79 pm_80 pd_81) := hD
                exact J_105 _ _ _ _ _ _ _ _ h _ _ hP hD hS _ (lv_sub hl [0, 1, 2, 3, 4] rfl)
              · intro k_103 J_103 h
                refine lv_if_le (tgt := 99) hx hb d_Mo_measure_91 (by decide) (fun c_85 => ?_) (fun c_85 => ?_)
                · replace h := ck_if_t h c_85
                  refine lv_iload hx hb d_Mo_measure_99 (lv_at hl 6 rfl) ?_
                  refine lv_iload_n hx hb d_Mo_measure_101 rfl (lv_at hl 0 rfl) ?_
                  refine lv_imul hx hb d_Mo_measure_102 ?_
                  exact J_103 _ h _ _ hP hD hS _ (lv_sub hl [1, 2, 3, 0, 4] rfl)
                · replace h := ck_if_f h c_85
                  refine lv_iload hx hb d_Mo_measure_94 (lv_at hl 6 rfl) ?_
                  refine lv_goto (tgt := 103) hx hb d_Mo_measure_96 (by decide) ?_
                  exact J_103 _ h _ _ hP hD hS _ (lv_sub hl [1, 2, 3, 0, 4] rfl)
            · intro k_74 J_74 h
              refine lv_if_ne (tgt := 73) hx hb d_Mo_measure_65 (by decide) (fun c_86 => ?_) (fun c_86 => ?_)
              · replace h := ck_if_f h c_86
                refine lv_iload_n hx hb d_Mo_measure_73 rfl (lv_at hl 4 rfl) ?_
                exact J_74 _ h _ _ hP hD hS _ (lv_sub hl [1, 2, 3, 5, 6, 0] rfl)
              · replace h := ck_if_t h c_86
                refine lv_iload hx hb d_Mo_measure_68 (lv_at hl 0 rfl) ?_
                refine lv_goto (tgt := 74) hx hb d_Mo_measure_70 (by decide) ?_
                exact J_74 _ h _ _ hP hD hS _ (lv_sub hl [1, 2, 3, 5, 6, 0] rfl)
          · intro k_62 J_62 h
            refine lv_icmp_ne (tgt := 61) hx hb d_Mo_measure_49 (by decide) (fun c_87 => ?_) (fun c_87 => ?_)
            · replace h := ck_if_f h c_87
              refine lv_iconst (v := 0) hx hb d_Mo_measure_61 (by decide) ?_
              exact J_62 _ _ _ _ _ _ _ h _ _ hP hD hS _ (lv_sub hl [1, 2, 3, 4, 5, 0] rfl)
            · replace h := ck_if_t h c_87
              refine lv_aload_n hx hb d_Mo_measure_52 rfl (lv_at hl 1 rfl) ?_
              refine lv_iload hx hb d_Mo_measure_53 (lv_at hl 0 rfl) ?_
              obtain ⟨r_88, u_89, u_90, u_91, u_92, u_93, u_94, hc_95, h⟩ := ck_b7_s h
              have hPc := hP
              have hDc := hD
              have hFc := pw_free hDc hS hA
              refine va_calli (va_runV (As := [.int x_63]) (rest := []) ⟨hx, hb, hml, hown, hts⟩ (c_R_minorOf l dC dI cI cJ cB cZ cT cN H.size ha NA ND m_rows m_columns m_prime m_small m_pivots w_54 w_55 w_56 m_fields m_rowCounts m_elements m_numbers m_known m_ranks m_rankOf w_57 m_order m_sizes m_coefficients m_choices m_sorted pn_58 pm_59 pd_60 x_63 _ hc_95) (cwV 1 hts (tb_V tw_576 tw_578 tp_31 tw_6 tw_579) rfl rfl rfl (by decide +kernel) ⟨Nat.le_of_ble_eq_true rfl, Nat.le_of_ble_eq_true rfl⟩) ⟨fun a U g mk q => by obtain ⟨q0, q1, qP, qK, qN, qD⟩ := q; exact ⟨q0, q1, qP, va_K.moved (u := U) (U := U.calling g mk a) (Vm.Alike.refl U.vm) qK, qN.same rfl, qD⟩, va_recv hK hPc (ci := 6) (q0 := 0) rfl rfl, fun U hU hW => ⟨rfl, by rw [hU], by rw [hU]; exact hPc, va_K.moved hW.alike hK, hN.warm hW, hDc.weaken (fun _ _ _ _ => trivial)⟩⟩ rfl rfl hl.1 rfl (lv_room (Nat.le_of_ble_eq_true rfl)) d_Mo_measure_55 ⟨Nat.zero_le _, Nat.zero_le _⟩) hS (fun q _ h => hFc q h) hFc (fun rr u t H1 locs ht hvm hw hB hz1 hk1 hS => ?_)
              obtain ⟨e1, e2⟩ := Prod.mk.inj hw
              replace e1 := e1.symm
              replace e2 := e2.symm
              subst e1
              subst e2
              obtain ⟨hP1, -, hD1⟩ := hB
              rw [ht] at hP1
              have hP : va_P (dC, dI) cl_all (xw cI cJ cB cZ cN ha NA m_rows m_columns m_prime m_small m_pivots u_89 u_90 u_91 m_fields m_rowCounts m_elements m_numbers m_known m_ranks m_rankOf w_57 m_order m_sizes m_coefficients m_choices m_sorted ++ po cI NA ND u_92 u_93 u_94) H1 := hP1
              have hD : va_D A (xw cI cJ cB cZ cN ha NA m_rows m_columns m_prime m_small m_pivots u_89 u_90 u_91 m_fields m_rowCounts m_elements m_numbers m_known m_ranks m_rankOf w_57 m_order m_sizes m_coefficients m_choices m_sorted ++ po cI NA ND u_92 u_93 u_94) := hD1.weaken (fun _ _ _ h => hFc _ h)
              generalize H1 = H at hP hS ⊢
              have hP : va_P (dC, dI) cl_all (xw cI cJ cB cZ cN ha NA m_rows m_columns m_prime m_small m_pivots u_89 u_90 u_91 m_fields m_rowCounts m_elements m_numbers m_known m_ranks m_rankOf w_57 m_order m_sizes m_coefficients m_choices m_sorted ++ po cI NA ND u_92 u_93 u_94) H := hP
              have hD : va_D A (xw cI cJ cB cZ cN ha NA m_rows m_columns m_prime m_small m_pivots u_89 u_90 u_91 m_fields m_rowCounts m_elements m_numbers m_known m_ranks m_rankOf w_57 m_order m_sizes m_coefficients m_choices m_sorted ++ po cI NA ND u_92 u_93 u_94) := hD
              refine lv_goto (tgt := 62) hx hb d_Mo_measure_58 (by decide) ?_
              exact J_62 _ _ _ _ _ _ _ h _ _ hP hD hS _ (lv_sub hl [1, 2, 3, 4, 5, 0] rfl)
        · replace h := ck_if_f h c_73
          refine lv_goto (tgt := 105) hx hb d_Mo_measure_35 (by decide) ?_
          exact J_105 _ _ _ _ _ _ _ _ h _ _ hP hD hS _ (lv_sub hl [1, 2, 3, 4, 5] rfl)
theorem d_Mo_learn_0 : decode prog_7_method_24_code 0 = .ok (.iload_n 1, 1) := by decide +kernel
theorem d_Mo_learn_1 : decode prog_7_method_24_code 1 = .ok (.invokestatic 199, 3) := by decide +kernel
theorem d_Mo_learn_4 : decode prog_7_method_24_code 4 = .ok (.ifCond .ne 5, 3) := by decide +kernel
theorem d_Mo_learn_7 : decode prog_7_method_24_code 7 = .ok (.iconst 0, 1) := by decide +kernel
theorem d_Mo_learn_8 : decode prog_7_method_24_code 8 = .ok (.ireturn, 1) := by decide +kernel
theorem d_Mo_learn_9 : decode prog_7_method_24_code 9 = .ok (.aload_n 0, 1) := by decide +kernel
theorem d_Mo_learn_10 : decode prog_7_method_24_code 10 = .ok (.getfield 165, 3) := by decide +kernel
theorem d_Mo_learn_13 : decode prog_7_method_24_code 13 = .ok (.iload_n 1, 1) := by decide +kernel
theorem d_Mo_learn_14 : decode prog_7_method_24_code 14 = .ok (.baload, 1) := by decide +kernel
theorem d_Mo_learn_15 : decode prog_7_method_24_code 15 = .ok (.ifCond .ne 111, 3) := by decide +kernel
theorem d_Mo_learn_18 : decode prog_7_method_24_code 18 = .ok (.aload_n 0, 1) := by decide +kernel
theorem d_Mo_learn_19 : decode prog_7_method_24_code 19 = .ok (.aload_n 0, 1) := by decide +kernel
theorem d_Mo_learn_20 : decode prog_7_method_24_code 20 = .ok (.getfield 153, 3) := by decide +kernel
theorem d_Mo_learn_23 : decode prog_7_method_24_code 23 = .ok (.iload_n 1, 1) := by decide +kernel
theorem d_Mo_learn_24 : decode prog_7_method_24_code 24 = .ok (.iaload, 1) := by decide +kernel
theorem d_Mo_learn_25 : decode prog_7_method_24_code 25 = .ok (.aload_n 0, 1) := by decide +kernel
theorem d_Mo_learn_26 : decode prog_7_method_24_code 26 = .ok (.getfield 159, 3) := by decide +kernel
theorem d_Mo_learn_29 : decode prog_7_method_24_code 29 = .ok (.iload_n 1, 1) := by decide +kernel
theorem d_Mo_learn_30 : decode prog_7_method_24_code 30 = .ok (.iaload, 1) := by decide +kernel
theorem d_Mo_learn_31 : decode prog_7_method_24_code 31 = .ok (.invokevirtual 206, 3) := by decide +kernel
theorem d_Mo_learn_34 : decode prog_7_method_24_code 34 = .ok (.aload_n 0, 1) := by decide +kernel
theorem d_Mo_learn_35 : decode prog_7_method_24_code 35 = .ok (.aload_n 0, 1) := by decide +kernel
theorem d_Mo_learn_36 : decode prog_7_method_24_code 36 = .ok (.getfield 156, 3) := by decide +kernel
theorem d_Mo_learn_39 : decode prog_7_method_24_code 39 = .ok (.iload_n 1, 1) := by decide +kernel
theorem d_Mo_learn_40 : decode prog_7_method_24_code 40 = .ok (.iaload, 1) := by decide +kernel
theorem d_Mo_learn_41 : decode prog_7_method_24_code 41 = .ok (.putfield 44, 3) := by decide +kernel
theorem d_Mo_learn_44 : decode prog_7_method_24_code 44 = .ok (.iconst 0, 1) := by decide +kernel
theorem d_Mo_learn_45 : decode prog_7_method_24_code 45 = .ok (.istore_n 2, 1) := by decide +kernel
theorem d_Mo_learn_46 : decode prog_7_method_24_code 46 = .ok (.iload_n 2, 1) := by decide +kernel
theorem d_Mo_learn_47 : decode prog_7_method_24_code 47 = .ok (.aload_n 0, 1) := by decide +kernel
theorem d_Mo_learn_48 : decode prog_7_method_24_code 48 = .ok (.getfield 44, 3) := by decide +kernel
theorem d_Mo_learn_51 : decode prog_7_method_24_code 51 = .ok (.if_icmp .ge 49, 3) := by decide +kernel
theorem d_Mo_learn_54 : decode prog_7_method_24_code 54 = .ok (.iconst 0, 1) := by decide +kernel
theorem d_Mo_learn_55 : decode prog_7_method_24_code 55 = .ok (.istore_n 3, 1) := by decide +kernel
theorem d_Mo_learn_56 : decode prog_7_method_24_code 56 = .ok (.iload_n 3, 1) := by decide +kernel
theorem d_Mo_learn_57 : decode prog_7_method_24_code 57 = .ok (.aload_n 0, 1) := by decide +kernel
theorem d_Mo_learn_58 : decode prog_7_method_24_code 58 = .ok (.getfield 41, 3) := by decide +kernel
theorem d_Mo_learn_61 : decode prog_7_method_24_code 61 = .ok (.if_icmp .ge 33, 3) := by decide +kernel
theorem d_Mo_learn_64 : decode prog_7_method_24_code 64 = .ok (.aload_n 0, 1) := by decide +kernel
theorem d_Mo_learn_65 : decode prog_7_method_24_code 65 = .ok (.iload_n 2, 1) := by decide +kernel
theorem d_Mo_learn_66 : decode prog_7_method_24_code 66 = .ok (.iload_n 3, 1) := by decide +kernel
theorem d_Mo_learn_67 : decode prog_7_method_24_code 67 = .ok (.aload_n 0, 1) := by decide +kernel
theorem d_Mo_learn_68 : decode prog_7_method_24_code 68 = .ok (.getfield 162, 3) := by decide +kernel
theorem d_Mo_learn_71 : decode prog_7_method_24_code 71 = .ok (.sipush 144, 3) := by decide +kernel
theorem d_Mo_learn_74 : decode prog_7_method_24_code 74 = .ok (.iload_n 1, 1) := by decide +kernel
theorem d_Mo_learn_75 : decode prog_7_method_24_code 75 = .ok (.imul, 1) := by decide +kernel
theorem d_Mo_learn_76 : decode prog_7_method_24_code 76 = .ok (.bipush 12, 2) := by decide +kernel
theorem d_Mo_learn_78 : decode prog_7_method_24_code 78 = .ok (.iload_n 2, 1) := by decide +kernel
theorem d_Mo_learn_79 : decode prog_7_method_24_code 79 = .ok (.imul, 1) := by decide +kernel
theorem d_Mo_learn_80 : decode prog_7_method_24_code 80 = .ok (.iadd, 1) := by decide +kernel
theorem d_Mo_learn_81 : decode prog_7_method_24_code 81 = .ok (.iload_n 3, 1) := by decide +kernel
theorem d_Mo_learn_82 : decode prog_7_method_24_code 82 = .ok (.iadd, 1) := by decide +kernel
theorem d_Mo_learn_83 : decode prog_7_method_24_code 83 = .ok (.iaload, 1) := by decide +kernel
theorem d_Mo_learn_84 : decode prog_7_method_24_code 84 = .ok (.i2l, 1) := by decide +kernel
theorem d_Mo_learn_85 : decode prog_7_method_24_code 85 = .ok (.invokevirtual 209, 3) := by decide +kernel
theorem d_Mo_learn_88 : decode prog_7_method_24_code 88 = .ok (.iinc 3 1, 3) := by decide +kernel
theorem d_Mo_learn_91 : decode prog_7_method_24_code 91 = .ok (.goto (-35), 3) := by decide +kernel
theorem d_Mo_learn_94 : decode prog_7_method_24_code 94 = .ok (.iinc 2 1, 3) := by decide +kernel
theorem d_Mo_learn_97 : decode prog_7_method_24_code 97 = .ok (.goto (-51), 3) := by decide +kernel
theorem d_Mo_learn_100 : decode prog_7_method_24_code 100 = .ok (.aload_n 0, 1) := by decide +kernel
theorem d_Mo_learn_101 : decode prog_7_method_24_code 101 = .ok (.invokevirtual 213, 3) := by decide +kernel
theorem d_Mo_learn_104 : decode prog_7_method_24_code 104 = .ok (.aload_n 0, 1) := by decide +kernel
theorem d_Mo_learn_105 : decode prog_7_method_24_code 105 = .ok (.getfield 169, 3) := by decide +kernel
theorem d_Mo_learn_108 : decode prog_7_method_24_code 108 = .ok (.iload_n 1, 1) := by decide +kernel
theorem d_Mo_learn_109 : decode prog_7_method_24_code 109 = .ok (.aload_n 0, 1) := by decide +kernel
theorem d_Mo_learn_110 : decode prog_7_method_24_code 110 = .ok (.getfield 44, 3) := by decide +kernel
theorem d_Mo_learn_113 : decode prog_7_method_24_code 113 = .ok (.iastore, 1) := by decide +kernel
theorem d_Mo_learn_114 : decode prog_7_method_24_code 114 = .ok (.aload_n 0, 1) := by decide +kernel
theorem d_Mo_learn_115 : decode prog_7_method_24_code 115 = .ok (.iload_n 1, 1) := by decide +kernel
theorem d_Mo_learn_116 : decode prog_7_method_24_code 116 = .ok (.invokevirtual 216, 3) := by decide +kernel
theorem d_Mo_learn_119 : decode prog_7_method_24_code 119 = .ok (.aload_n 0, 1) := by decide +kernel
theorem d_Mo_learn_120 : decode prog_7_method_24_code 120 = .ok (.getfield 165, 3) := by decide +kernel
theorem d_Mo_learn_123 : decode prog_7_method_24_code 123 = .ok (.iload_n 1, 1) := by decide +kernel
theorem d_Mo_learn_124 : decode prog_7_method_24_code 124 = .ok (.iconst 1, 1) := by decide +kernel
theorem d_Mo_learn_125 : decode prog_7_method_24_code 125 = .ok (.bastore, 1) := by decide +kernel
theorem d_Mo_learn_126 : decode prog_7_method_24_code 126 = .ok (.iconst 1, 1) := by decide +kernel
theorem d_Mo_learn_127 : decode prog_7_method_24_code 127 = .ok (.ireturn, 1) := by decide +kernel
def f_R_learn (m_rows : Int32) (m_columns : Int32) (m_prime : Int32) (m_small : Nat → Int32) (m_pivots : Nat → Int32) (m_freeRows : Nat → Int32) (m_freeColumns : Nat → Int32) (m_smallMinor : Nat → Int32) (m_fields : Nat → Int32) (m_rowCounts : Nat → Int32) (m_elements : Nat → Int32) (m_numbers : Nat → Int32) (m_known : Nat → Int32) (m_ranks : Nat → Int32) (m_rankOf : Nat → Int32) (m_signOf : Nat → Int32) (m_order : Nat → Int32) (m_sizes : Nat → Int32) (pn : Nat → Int32) (pm : Nat → Int32) (pd : Nat → Nat → Int32) (t0 : Int32) : Option (Int32 × Int32 × Int32 × Int32 × (Nat → Int32) × (Nat → Int32) × (Nat → Int32) × (Nat → Int32) × (Nat → Int32) × (Nat → Int32) × (Nat → Int32) × (Nat → Int32) × (Nat → Int32) × (Nat → Int32) × (Nat → Int32) × (Nat → Nat → Int32)) :=
  ck_b1 (f_R_isTable t0) <| fun r_1 => ck_if (r_1 = 0) (some (0, m_rows, m_columns, m_prime, m_small, m_pivots, m_freeRows, m_freeColumns, m_smallMinor, m_known, m_ranks, m_rankOf, m_signOf, pn, pm, pd)) (ck_in t0 4 <| ck_if ((m_known t0.toNatClampNeg) = 0) (ck_in t0 4 <| ck_in t0 4 <| ck_b3 (f_R_empty (m_fields t0.toNatClampNeg) (m_elements t0.toNatClampNeg)) <| fun u_8 u_9 u_10 => ck_in t0 4 <| ck_jn (fun (w_13 : Nat → Int32) (pn_14 : Nat → Int32) (pm_15 : Nat → Int32) (pd_16 : Nat → Nat → Int32) => ck_b6 (f_R_reduce (m_rowCounts t0.toNatClampNeg) u_9 u_8 w_13 m_pivots pn_14 pm_15 pd_16) <| fun u_17 u_18 u_19 u_20 u_21 u_22 => ck_in t0 4 <| ck_b8 (f_R_measure u_18 u_9 u_8 u_17 u_19 m_freeRows m_freeColumns m_smallMinor m_rankOf m_signOf m_order m_sizes u_20 u_21 u_22 t0) <| fun u_25 u_26 u_27 u_28 u_29 u_30 u_31 u_32 => ck_in t0 4 <| some (1, u_18, u_9, u_8, u_17, u_19, u_25, u_26, u_27, (upd m_known t0.toNatClampNeg (vp_nar .boolean 1)), (upd m_ranks t0.toNatClampNeg u_18), u_28, u_29, u_30, u_31, u_32)) <| fun k_100 => lo5 (fun k_46 (v2_35 : Int32) (w_36 : Nat → Int32) (pn_37 : Nat → Int32) (pm_38 : Nat → Int32) (pd_39 : Nat → Nat → Int32) => ck_if ((m_rowCounts t0.toNatClampNeg) ≤ v2_35) (k_100 w_36 pn_37 pm_38 pd_39) (ck_jn (fun (w_41 : Nat → Int32) (pn_42 : Nat → Int32) (pm_43 : Nat → Int32) (pd_44 : Nat → Nat → Int32) => ck_nm (v2_35 + 1) <| fun x_45 => k_46 x_45 w_41 pn_42 pm_43 pd_44) <| fun k_94 => lo5 (fun k_56 (v3_46 : Int32) (w_47 : Nat → Int32) (pn_48 : Nat → Int32) (pm_49 : Nat → Int32) (pd_50 : Nat → Nat → Int32) => ck_if (u_9 ≤ v3_46) (k_94 w_47 pn_48 pm_49 pd_50) (ck_in (((144 * t0) + (12 * v2_35)) + v3_46) 576 <| ck_b4 (f_R_lay u_8 w_47 pn_48 pm_49 pd_50 v2_35 v3_46 ((m_numbers (((144 * t0) + (12 * v2_35)) + v3_46).toNatClampNeg).toInt64)) <| fun u_53 u_54 u_55 u_56 => ck_nm (v3_46 + 1) <| fun x_58 => k_56 x_58 u_53 u_54 u_55 u_56)) ck_F 0 w_36 pn_37 pm_38 pd_39)) ck_F 0 m_small pn pm pd) (some (1, m_rows, m_columns, m_prime, m_small, m_pivots, m_freeRows, m_freeColumns, m_smallMinor, m_known, m_ranks, m_rankOf, m_signOf, pn, pm, pd)))
set_option maxHeartbeats 4000000 in
set_option maxRecDepth 100000 in
theorem c_R_learn (l : Launch) (dC : Nat → ClassId) (dI : Nat → Nat → Nat) (cI cJ cB cZ cT cN : ClassId) (sz : Nat) (ha NA ND : Nat → Nat) (m_rows : Int32) (m_columns : Int32) (m_prime : Int32) (m_small : Nat → Int32) (m_pivots : Nat → Int32) (m_freeRows : Nat → Int32) (m_freeColumns : Nat → Int32) (m_smallMinor : Nat → Int32) (m_fields : Nat → Int32) (m_rowCounts : Nat → Int32) (m_elements : Nat → Int32) (m_numbers : Nat → Int32) (m_known : Nat → Int32) (m_ranks : Nat → Int32) (m_rankOf : Nat → Int32) (m_signOf : Nat → Int32) (m_order : Nat → Int32) (m_sizes : Nat → Int32) (m_coefficients : Nat → Int64) (m_choices : Nat → Int64) (m_sorted : Nat → Int32) (pn : Nat → Int32) (pm : Nat → Int32) (pd : Nat → Nat → Int32) (t0 : Int32) (r : Int32 × Int32 × Int32 × Int32 × (Nat → Int32) × (Nat → Int32) × (Nat → Int32) × (Nat → Int32) × (Nat → Int32) × (Nat → Int32) × (Nat → Int32) × (Nat → Int32) × (Nat → Int32) × (Nat → Int32) × (Nat → Int32) × (Nat → Nat → Int32)) (h : f_R_learn m_rows m_columns m_prime m_small m_pivots m_freeRows m_freeColumns m_smallMinor m_fields m_rowCounts m_elements m_numbers m_known m_ranks m_rankOf m_signOf m_order m_sizes pn pm pd t0 = some r) : Met l y_Mo_learn w_Mo_learn ({ frames := 7, cells := 0, slots := 0, locals := 174 } : Room) (va_Pc [.ref (ha 0), .int t0] (fun U => U.heap.size = sz ∧ va_P (dC, dI) cl_all (xw cI cJ cB cZ cN ha NA m_rows m_columns m_prime m_small m_pivots m_freeRows m_freeColumns m_smallMinor m_fields m_rowCounts m_elements m_numbers m_known m_ranks m_rankOf m_signOf m_order m_sizes m_coefficients m_choices m_sorted ++ po cI NA ND pn pm pd) U.heap ∧ va_K (dC, dI) cl_all [(cI, .int), (cJ, .long), (cB, .byte), (cZ, .boolean), (cT, .object "BasisWalk$Table"), (cN, .object "BasisWalkModel$Num")] U ∧ NW U ∧ va_D (fun _ => True) (xw cI cJ cB cZ cN ha NA m_rows m_columns m_prime m_small m_pivots m_freeRows m_freeColumns m_smallMinor m_fields m_rowCounts m_elements m_numbers m_known m_ranks m_rankOf m_signOf m_order m_sizes m_coefficients m_choices m_sorted ++ po cI NA ND pn pm pd))) (va_Qi (fun (v : Int32) (u : Int32 × Int32 × Int32 × (Nat → Int32) × (Nat → Int32) × (Nat → Int32) × (Nat → Int32) × (Nat → Int32) × (Nat → Int32) × (Nat → Int32) × (Nat → Int32) × (Nat → Int32) × (Nat → Int32) × (Nat → Int32) × (Nat → Nat → Int32)) => (v, u) = r) (fun (u : Int32 × Int32 × Int32 × (Nat → Int32) × (Nat → Int32) × (Nat → Int32) × (Nat → Int32) × (Nat → Int32) × (Nat → Int32) × (Nat → Int32) × (Nat → Int32) × (Nat → Int32) × (Nat → Int32) × (Nat → Int32) × (Nat → Nat → Int32)) (t : State) => va_P (dC, dI) cl_all (xw cI cJ cB cZ cN ha NA u.1 u.2.1 u.2.2.1 u.2.2.2.1 u.2.2.2.2.1 u.2.2.2.2.2.1 u.2.2.2.2.2.2.1 u.2.2.2.2.2.2.2.1 m_fields m_rowCounts m_elements m_numbers u.2.2.2.2.2.2.2.2.1 u.2.2.2.2.2.2.2.2.2.1 u.2.2.2.2.2.2.2.2.2.2.1 u.2.2.2.2.2.2.2.2.2.2.2.1 m_order m_sizes m_coefficients m_choices m_sorted ++ po cI NA ND u.2.2.2.2.2.2.2.2.2.2.2.2.1 u.2.2.2.2.2.2.2.2.2.2.2.2.2.1 u.2.2.2.2.2.2.2.2.2.2.2.2.2.2) t.heap ∧ va_K (dC, dI) cl_all [(cI, .int), (cJ, .long), (cB, .byte), (cZ, .boolean), (cT, .object "BasisWalk$Table"), (cN, .object "BasisWalkModel$Num")] t ∧ va_D (va_A (xw cI cJ cB cZ cN ha NA m_rows m_columns m_prime m_small m_pivots m_freeRows m_freeColumns m_smallMinor m_fields m_rowCounts m_elements m_numbers m_known m_ranks m_rankOf m_signOf m_order m_sizes m_coefficients m_choices m_sorted ++ po cI NA ND pn pm pd) sz) (xw cI cJ cB cZ cN ha NA u.1 u.2.1 u.2.2.1 u.2.2.2.1 u.2.2.2.2.1 u.2.2.2.2.2.1 u.2.2.2.2.2.2.1 u.2.2.2.2.2.2.2.1 m_fields m_rowCounts m_elements m_numbers u.2.2.2.2.2.2.2.2.1 u.2.2.2.2.2.2.2.2.2.1 u.2.2.2.2.2.2.2.2.2.2.1 u.2.2.2.2.2.2.2.2.2.2.2.1 m_order m_sizes m_coefficients m_choices m_sorted ++ po cI NA ND u.2.2.2.2.2.2.2.2.2.2.2.2.1 u.2.2.2.2.2.2.2.2.2.2.2.2.2.1 u.2.2.2.2.2.2.2.2.2.2.2.2.2.2)) (va_A (xw cI cJ cB cZ cN ha NA m_rows m_columns m_prime m_small m_pivots m_freeRows m_freeColumns m_smallMinor m_fields m_rowCounts m_elements m_numbers m_known m_ranks m_rankOf m_signOf m_order m_sizes m_coefficients m_choices m_sorted ++ po cI NA ND pn pm pd) sz)) 0 0 (va_A (xw cI cJ cB cZ cN ha NA m_rows m_columns m_prime m_small m_pivots m_freeRows m_freeColumns m_smallMinor m_fields m_rowCounts m_elements m_numbers m_known m_ranks m_rankOf m_signOf m_order m_sizes m_coefficients m_choices m_sorted ++ po cI NA ND pn pm pd) sz) := by
  refine Met.ofW (cc := prog_7_method_24_code) (maxL := 4) (ret := (Option.some Jvm.ClassFile.FieldType.boolean)) (by decide) rfl ?_
  intro p e s m args below meth c s₁ B hml hv
  obtain ⟨hAR, hsz, hP, hK, hN, hD0⟩ := hv
  have hx := B.exec
  have hb := B.bytes
  have hr := B.returns
  have hts := atoms_spec (ws := w_Mo_learn) B.pre
  have hown : s.vm.findClass "BasisWalkModel" = some m.cls := findClass_of_methodNamed B.named
  have hlocks := B.notSynchronized
  clear B
  subst hsz
  have hD := hD0.self (sz := s.heap.size)
  generalize hAe : va_A (xw cI cJ cB cZ cN ha NA m_rows m_columns m_prime m_small m_pivots m_freeRows m_freeColumns m_smallMinor m_fields m_rowCounts m_elements m_numbers m_known m_ranks m_rankOf m_signOf m_order m_sizes m_coefficients m_choices m_sorted ++ po cI NA ND pn pm pd) s.heap.size = A at hD ⊢
  have hA : ∀ q : Nat, s.heap.size ≤ q → A q := fun q h => by rw [← hAe]; exact Or.inr h
  clear hAe hD0
  have hS : va_S A s.heap s.heap [] := va_S.rf
  have hl := lv_entry ([.ref (ha 0), .int t0]) (n := 4) (Nat.le_of_ble_eq_true rfl)
  subst hAR
  rw [lg_entry_eq]
  generalize (lg_sl ([.ref (ha 0), .int t0]) ++ List.replicate (4 - (lg_sl ([.ref (ha 0), .int t0])).length) Slot.unset).toArray = ls at hl ⊢
  have hl : lv_has ls 4 [(0, .ref (ha 0)), (1, .int t0)] := hl
  change W p l e ({ frames := 7, cells := 0, slots := 0, locals := 174 } : Room) s m _ below meth c s.heap [] 0 0 _ _
  generalize hARe : ([.ref (ha 0), .int t0] : List Value).toArray = AR at hts ⊢
  clear hARe
  generalize hQ : MQ below _ AR s 0 0 A = QQ
  have fl0 := hts _ (List.mem_cons_of_mem _ tw_377)
  have iw1 := (fun w hw => List.mem_cons_of_mem _ (in_Mo w hw) : ∀ w ∈ u_ws "BasisWalkModel" T_Mo 31, w ∈ w_Mo_learn)
  have fl2 := hts _ (List.mem_cons_of_mem _ tw_373)
  have fl3 := hts _ (List.mem_cons_of_mem _ tw_375)
  have fl4 := hts _ (List.mem_cons_of_mem _ tw_374)
  have fl5 := hts _ (List.mem_cons_of_mem _ tw_365)
  have fl6 := hts _ (List.mem_cons_of_mem _ tw_378)
  have fl7 := hts _ (List.mem_cons_of_mem _ tw_366)
  have fl8 := hts _ (List.mem_cons_of_mem _ tw_376)
  obtain ⟨H, hHe⟩ : ∃ H : Heap, H = s.heap := ⟨_, rfl⟩
  rw [← hHe] at hP ⊢
  replace hS : va_S A s.heap H [] := by rw [hHe]; exact va_S.rf
  clear hHe
  unfold f_R_learn at h
  refine lv_iload_n hx hb d_Mo_learn_0 rfl (lv_at hl 1 rfl) ?_
  obtain ⟨r_1, hc_2, h⟩ := ck_b1_s h
  have hPc := hP.sub (ws' := []) [] rfl
  have hDc := hD.sub (ws' := []) [] (by decide) rfl
  have hFc := va_free (wc := []) hD hS hA [] rfl
  refine va_calli (va_runS (As := [.int t0]) (rest := []) ⟨hx, hb, hml, hown, hts⟩ (c_R_isTable l dC dI cI cJ cB cZ cT cN H.size t0 _ hc_2) (va_cwS 1 hts (tb_S tw_455 tw_456 tw_6 tw_457) rfl rfl rfl (by decide +kernel) ⟨Nat.le_of_ble_eq_true rfl, Nat.le_of_ble_eq_true rfl⟩) ⟨fun a U g mk q => by obtain ⟨q0, q1, qP, qK, qN, qD⟩ := q; exact ⟨q0, q1, qP, va_K.moved (u := U) (U := U.calling g mk a) (Vm.Alike.refl U.vm) qK, qN.same rfl, qD⟩, fun U hU hW => ⟨rfl, by rw [hU], by rw [hU]; exact hPc, va_K.moved hW.alike hK, hN.warm hW, hDc.weaken (fun _ _ _ _ => trivial)⟩⟩ rfl rfl hl.1 rfl (lv_room (Nat.le_of_ble_eq_true rfl)) d_Mo_learn_1 ⟨Nat.zero_le _, Nat.zero_le _⟩) hS (fun q _ h => hFc q h) hFc (fun rr u t H1 locs ht hvm hw hB hz1 hk1 hS => ?_)
  replace hw := hw.symm
  subst hw
  obtain ⟨hP1, -, hD1⟩ := hB
  rw [ht] at hP1
  obtain ⟨hP, hD⟩ := pw_back (ws' := (xw cI cJ cB cZ cN ha NA m_rows m_columns m_prime m_small m_pivots m_freeRows m_freeColumns m_smallMinor m_fields m_rowCounts m_elements m_numbers m_known m_ranks m_rankOf m_signOf m_order m_sizes m_coefficients m_choices m_sorted ++ po cI NA ND pn pm pd)) (w1 := []) hP hD hk1 hP1 (fun k => match k with | 0 => rfl | 1 => rfl | 2 => rfl | 3 => rfl | 4 => rfl | 5 => rfl | 6 => rfl | 7 => rfl | 8 => rfl | 9 => rfl | 10 => rfl | 11 => rfl | 12 => rfl | 13 => rfl | 14 => rfl | 15 => rfl | 16 => rfl | 17 => rfl | 18 => rfl | 19 => rfl | 20 => rfl | q + 21 => rfl) (fun k q hq => match k, hq with | 0, hq => Or.inr ⟨hq, pw_off (k := 0) hD [] rfl hq (by decide)⟩ | 1, hq => Or.inr ⟨hq, pw_off (k := 1) hD [] rfl hq (by decide)⟩ | 2, hq => Or.inr ⟨hq, pw_off (k := 2) hD [] rfl hq (by decide)⟩ | 3, hq => Or.inr ⟨hq, pw_off (k := 3) hD [] rfl hq (by decide)⟩ | 4, hq => Or.inr ⟨hq, pw_off (k := 4) hD [] rfl hq (by decide)⟩ | 5, hq => Or.inr ⟨hq, pw_off (k := 5) hD [] rfl hq (by decide)⟩ | 6, hq => Or.inr ⟨hq, pw_off (k := 6) hD [] rfl hq (by decide)⟩ | 7, hq => Or.inr ⟨hq, pw_off (k := 7) hD [] rfl hq (by decide)⟩ | 8, hq => Or.inr ⟨hq, pw_off (k := 8) hD [] rfl hq (by decide)⟩ | 9, hq => Or.inr ⟨hq, pw_off (k := 9) hD [] rfl hq (by decide)⟩ | 10, hq => Or.inr ⟨hq, pw_off (k := 10) hD [] rfl hq (by decide)⟩ | 11, hq => Or.inr ⟨hq, pw_off (k := 11) hD [] rfl hq (by decide)⟩ | 12, hq => Or.inr ⟨hq, pw_off (k := 12) hD [] rfl hq (by decide)⟩ | 13, hq => Or.inr ⟨hq, pw_off (k := 13) hD [] rfl hq (by decide)⟩ | 14, hq => Or.inr ⟨hq, pw_off (k := 14) hD [] rfl hq (by decide)⟩ | 15, hq => Or.inr ⟨hq, pw_off (k := 15) hD [] rfl hq (by decide)⟩ | 16, hq => Or.inr ⟨hq, pw_off (k := 16) hD [] rfl hq (by decide)⟩ | 17, hq => Or.inr ⟨hq, pw_off (k := 17) hD [] rfl hq (by decide)⟩ | 18, hq => Or.inr ⟨hq, pw_off (k := 18) hD [] rfl hq (by decide)⟩ | 19, hq => Or.inr ⟨hq, pw_off (k := 19) hD [] rfl hq (by decide)⟩ | 20, hq => Or.inr ⟨hq, pw_off (k := 20) hD [] rfl hq (by decide)⟩ | q + 21, hq => Or.inr ⟨hq, pw_off (k := q + 21) hD [] rfl hq List.not_mem_nil⟩)
  generalize H1 = H at hP hS ⊢
  have hP : va_P (dC, dI) cl_all (xw cI cJ cB cZ cN ha NA m_rows m_columns m_prime m_small m_pivots m_freeRows m_freeColumns m_smallMinor m_fields m_rowCounts m_elements m_numbers m_known m_ranks m_rankOf m_signOf m_order m_sizes m_coefficients m_choices m_sorted ++ po cI NA ND pn pm pd) H := hP
  have hD : va_D A (xw cI cJ cB cZ cN ha NA m_rows m_columns m_prime m_small m_pivots m_freeRows m_freeColumns m_smallMinor m_fields m_rowCounts m_elements m_numbers m_known m_ranks m_rankOf m_signOf m_order m_sizes m_coefficients m_choices m_sorted ++ po cI NA ND pn pm pd) := hD
  refine lv_if_ne (tgt := 9) hx hb d_Mo_learn_4 (by decide) (fun c_3 => ?_) (fun c_3 => ?_)
  · replace h := ck_if_f h c_3
    refine lv_aload_n hx hb d_Mo_learn_9 rfl (lv_at hl 0 rfl) ?_
    refine va_get (D := (dC, dI)) (ci := 6) (v := .ref (ha 12)) (C := "BasisWalkModel") (T := T_Mo) (N := 31) hx hb hts iw1 hown hK hP 0 rfl rfl 22 (by decide) fl0 (fun _ h9 => h9) rfl d_Mo_learn_10 ?_
    refine lv_iload_n hx hb d_Mo_learn_13 rfl (lv_at hl 1 rfl) ?_
    obtain ⟨g_4, h⟩ := ck_in_s h
    refine va_zald hx hb hK hP 12 3 rfl rfl g_4 d_Mo_learn_14 ?_
    refine lv_if_ne (tgt := 126) hx hb d_Mo_learn_15 (by decide) (fun c_5 => ?_) (fun c_5 => ?_)
    · replace h := ck_if_f h c_5
      refine lv_iconst (v := 1) hx hb d_Mo_learn_126 (by decide) ?_
      obtain rfl := Option.some.inj h
      subst hQ
      exact W.zret (ty := .boolean) (v := 1) hx hb hr rfl (fun t ht hW => ⟨⟨1, (m_rows, m_columns, m_prime, m_small, m_pivots, m_freeRows, m_freeColumns, m_smallMinor, m_known, m_ranks, m_rankOf, m_signOf, pn, pm, pd), rfl, rfl, by rw [ht]; exact hP, va_K.moved hW.alike hK, hD⟩, hS.F ht⟩) hS.2.2 d_Mo_learn_127
    · replace h := ck_if_t h c_5
      refine lv_aload_n hx hb d_Mo_learn_18 rfl (lv_at hl 0 rfl) ?_
      refine lv_aload_n hx hb d_Mo_learn_19 rfl (lv_at hl 0 rfl) ?_
      refine va_get (D := (dC, dI)) (ci := 6) (v := .ref (ha 8)) (C := "BasisWalkModel") (T := T_Mo) (N := 31) hx hb hts iw1 hown hK hP 0 rfl rfl 18 (by decide) fl2 (fun _ h9 => h9) rfl d_Mo_learn_20 ?_
      refine lv_iload_n hx hb d_Mo_learn_23 rfl (lv_at hl 1 rfl) ?_
      obtain ⟨g_6, h⟩ := ck_in_s h
      refine va_iald hx hb hK hP 8 0 rfl rfl g_6 d_Mo_learn_24 ?_
      refine lv_aload_n hx hb d_Mo_learn_25 rfl (lv_at hl 0 rfl) ?_
      refine va_get (D := (dC, dI)) (ci := 6) (v := .ref (ha 10)) (C := "BasisWalkModel") (T := T_Mo) (N := 31) hx hb hts iw1 hown hK hP 0 rfl rfl 20 (by decide) fl3 (fun _ h9 => h9) rfl d_Mo_learn_26 ?_
      refine lv_iload_n hx hb d_Mo_learn_29 rfl (lv_at hl 1 rfl) ?_
      obtain ⟨g_7, h⟩ := ck_in_s h
      refine va_iald hx hb hK hP 10 0 rfl rfl g_7 d_Mo_learn_30 ?_
      obtain ⟨u_8, u_9, u_10, hc_11, h⟩ := ck_b3_s h
      have hPc := hP.sub (ws' := [((ha 0), .inr (6, [.ref (NA 192), .ref (NA 193), .ref (NA 194), .ref (NA 195), .ref (NA 196), .ref (NA 197), .ref (NA 198), .ref (NA 199), .ref (ha 1), .ref (ha 2), .int m_rows, .int m_columns, .int m_prime, .ref (ha 3), .ref (ha 4), .ref (ha 5), .ref (ha 6), .ref (ha 7), .ref (ha 8), .ref (ha 9), .ref (ha 10), .ref (ha 11), .ref (ha 12), .ref (ha 13), .ref (ha 14), .ref (ha 15), .ref (ha 16), .ref (ha 17), .ref (ha 18), .ref (ha 19), .ref (ha 20)]))]) [0] rfl
      have hDc := hD.sub (ws' := [((ha 0), .inr (6, [.ref (NA 192), .ref (NA 193), .ref (NA 194), .ref (NA 195), .ref (NA 196), .ref (NA 197), .ref (NA 198), .ref (NA 199), .ref (ha 1), .ref (ha 2), .int m_rows, .int m_columns, .int m_prime, .ref (ha 3), .ref (ha 4), .ref (ha 5), .ref (ha 6), .ref (ha 7), .ref (ha 8), .ref (ha 9), .ref (ha 10), .ref (ha 11), .ref (ha 12), .ref (ha 13), .ref (ha 14), .ref (ha 15), .ref (ha 16), .ref (ha 17), .ref (ha 18), .ref (ha 19), .ref (ha 20)]))]) [0] (by decide) rfl
      have hFc := va_free (wc := [((ha 0), .inr (6, [.ref (NA 192), .ref (NA 193), .ref (NA 194), .ref (NA 195), .ref (NA 196), .ref (NA 197), .ref (NA 198), .ref (NA 199), .ref (ha 1), .ref (ha 2), .int m_rows, .int m_columns, .int m_prime, .ref (ha 3), .ref (ha 4), .ref (ha 5), .ref (ha 6), .ref (ha 7), .ref (ha 8), .ref (ha 9), .ref (ha 10), .ref (ha 11), .ref (ha 12), .ref (ha 13), .ref (ha 14), .ref (ha 15), .ref (ha 16), .ref (ha 17), .ref (ha 18), .ref (ha 19), .ref (ha 20)]))]) hD hS hA [0] rfl
      refine va_callv (va_runV (As := [.int (m_fields t0.toNatClampNeg), .int (m_elements t0.toNatClampNeg)]) (rest := []) ⟨hx, hb, hml, hown, hts⟩ (c_R_empty l dC dI cI cJ cB cZ cT cN H.size (ha 0) (NA 192) (NA 193) (NA 194) (NA 195) (NA 196) (NA 197) (NA 198) (NA 199) (ha 1) (ha 2) (ha 3) (ha 4) (ha 5) (ha 6) (ha 7) (ha 8) (ha 9) (ha 10) (ha 11) (ha 12) (ha 13) (ha 14) (ha 15) (ha 16) (ha 17) (ha 18) (ha 19) (ha 20) m_rows m_columns m_prime (m_fields t0.toNatClampNeg) (m_elements t0.toNatClampNeg) _ hc_11) (cwV 2 hts (tb_V tw_477 tw_479 tp_19 tw_6 tw_480) rfl rfl rfl (by decide +kernel) ⟨Nat.le_of_ble_eq_true rfl, Nat.le_of_ble_eq_true rfl⟩) ⟨fun a U g mk q => by obtain ⟨q0, q1, qP, qK, qN, qD⟩ := q; exact ⟨q0, q1, qP, va_K.moved (u := U) (U := U.calling g mk a) (Vm.Alike.refl U.vm) qK, qN.same rfl, qD⟩, va_recv hK hPc (ci := 6) (q0 := 0) rfl rfl, fun U hU hW => ⟨rfl, by rw [hU], by rw [hU]; exact hPc, va_K.moved hW.alike hK, hN.warm hW, hDc.weaken (fun _ _ _ _ => trivial)⟩⟩ rfl rfl hl.1 rfl (lv_room (Nat.le_of_ble_eq_true rfl)) d_Mo_learn_31 ⟨Nat.zero_le _, Nat.zero_le _⟩) hS (fun q _ h => hFc q h) hFc (fun u t H1 locs ht hvm hw hB hz1 hk1 hS => ?_)
      replace hw := hw.symm
      subst hw
      obtain ⟨hP1, -, hD1⟩ := hB
      rw [ht] at hP1
      obtain ⟨hP, hD⟩ := pw_back (ws' := (xw cI cJ cB cZ cN ha NA u_10 u_9 u_8 m_small m_pivots m_freeRows m_freeColumns m_smallMinor m_fields m_rowCounts m_elements m_numbers m_known m_ranks m_rankOf m_signOf m_order m_sizes m_coefficients m_choices m_sorted ++ po cI NA ND pn pm pd)) (w1 := [((ha 0), .inr (6, [.ref (NA 192), .ref (NA 193), .ref (NA 194), .ref (NA 195), .ref (NA 196), .ref (NA 197), .ref (NA 198), .ref (NA 199), .ref (ha 1), .ref (ha 2), .int u_10, .int u_9, .int u_8, .ref (ha 3), .ref (ha 4), .ref (ha 5), .ref (ha 6), .ref (ha 7), .ref (ha 8), .ref (ha 9), .ref (ha 10), .ref (ha 11), .ref (ha 12), .ref (ha 13), .ref (ha 14), .ref (ha 15), .ref (ha 16), .ref (ha 17), .ref (ha 18), .ref (ha 19), .ref (ha 20)]))]) hP hD hk1 hP1 (fun k => match k with | 0 => rfl | 1 => rfl | 2 => rfl | 3 => rfl | 4 => rfl | 5 => rfl | 6 => rfl | 7 => rfl | 8 => rfl | 9 => rfl | 10 => rfl | 11 => rfl | 12 => rfl | 13 => rfl | 14 => rfl | 15 => rfl | 16 => rfl | 17 => rfl | 18 => rfl | 19 => rfl | 20 => rfl | q + 21 => rfl) (fun k q hq => match k, hq with | 0, hq => Or.inl ⟨0, hq⟩ | 1, hq => Or.inr ⟨hq, pw_off (k := 1) hD [0] rfl hq (by decide)⟩ | 2, hq => Or.inr ⟨hq, pw_off (k := 2) hD [0] rfl hq (by decide)⟩ | 3, hq => Or.inr ⟨hq, pw_off (k := 3) hD [0] rfl hq (by decide)⟩ | 4, hq => Or.inr ⟨hq, pw_off (k := 4) hD [0] rfl hq (by decide)⟩ | 5, hq => Or.inr ⟨hq, pw_off (k := 5) hD [0] rfl hq (by decide)⟩ | 6, hq => Or.inr ⟨hq, pw_off (k := 6) hD [0] rfl hq (by decide)⟩ | 7, hq => Or.inr ⟨hq, pw_off (k := 7) hD [0] rfl hq (by decide)⟩ | 8, hq => Or.inr ⟨hq, pw_off (k := 8) hD [0] rfl hq (by decide)⟩ | 9, hq => Or.inr ⟨hq, pw_off (k := 9) hD [0] rfl hq (by decide)⟩ | 10, hq => Or.inr ⟨hq, pw_off (k := 10) hD [0] rfl hq (by decide)⟩ | 11, hq => Or.inr ⟨hq, pw_off (k := 11) hD [0] rfl hq (by decide)⟩ | 12, hq => Or.inr ⟨hq, pw_off (k := 12) hD [0] rfl hq (by decide)⟩ | 13, hq => Or.inr ⟨hq, pw_off (k := 13) hD [0] rfl hq (by decide)⟩ | 14, hq => Or.inr ⟨hq, pw_off (k := 14) hD [0] rfl hq (by decide)⟩ | 15, hq => Or.inr ⟨hq, pw_off (k := 15) hD [0] rfl hq (by decide)⟩ | 16, hq => Or.inr ⟨hq, pw_off (k := 16) hD [0] rfl hq (by decide)⟩ | 17, hq => Or.inr ⟨hq, pw_off (k := 17) hD [0] rfl hq (by decide)⟩ | 18, hq => Or.inr ⟨hq, pw_off (k := 18) hD [0] rfl hq (by decide)⟩ | 19, hq => Or.inr ⟨hq, pw_off (k := 19) hD [0] rfl hq (by decide)⟩ | 20, hq => Or.inr ⟨hq, pw_off (k := 20) hD [0] rfl hq (by decide)⟩ | q + 21, hq => Or.inr ⟨hq, pw_off (k := q + 21) hD [0] rfl hq (by simp only [List.mem_cons, List.not_mem_nil, or_false, not_or]; omega)⟩)
      generalize H1 = H at hP hS ⊢
      have hP : va_P (dC, dI) cl_all (xw cI cJ cB cZ cN ha NA u_10 u_9 u_8 m_small m_pivots m_freeRows m_freeColumns m_smallMinor m_fields m_rowCounts m_elements m_numbers m_known m_ranks m_rankOf m_signOf m_order m_sizes m_coefficients m_choices m_sorted ++ po cI NA ND pn pm pd) H := hP
      have hD : va_D A (xw cI cJ cB cZ cN ha NA u_10 u_9 u_8 m_small m_pivots m_freeRows m_freeColumns m_smallMinor m_fields m_rowCounts m_elements m_numbers m_known m_ranks m_rankOf m_signOf m_order m_sizes m_coefficients m_choices m_sorted ++ po cI NA ND pn pm pd) := hD
      refine lv_aload_n hx hb d_Mo_learn_34 rfl (lv_at hl 0 rfl) ?_
      refine lv_aload_n hx hb d_Mo_learn_35 rfl (lv_at hl 0 rfl) ?_
      refine va_get (D := (dC, dI)) (ci := 6) (v := .ref (ha 9)) (C := "BasisWalkModel") (T := T_Mo) (N := 31) hx hb hts iw1 hown hK hP 0 rfl rfl 19 (by decide) fl4 (fun _ h9 => h9) rfl d_Mo_learn_36 ?_
      refine lv_iload_n hx hb d_Mo_learn_39 rfl (lv_at hl 1 rfl) ?_
      obtain ⟨g_12, h⟩ := ck_in_s h
      refine va_iald hx hb hK hP 9 0 rfl rfl g_12 d_Mo_learn_40 ?_
      refine va_put (D := (dC, dI)) (ci := 6) (v := .int (m_rowCounts t0.toNatClampNeg)) (ty := .int) (C := "BasisWalkModel") (T := T_Mo) (N := 31) hx hb hts iw1 ty_Mo tyok_Mo nm_Mo hown hK hP hD hS 0 rfl rfl 10 (by decide) fl5 (fun _ h9 => h9) rfl (by decide +kernel) rfl rfl (Nat.le_of_ble_eq_true rfl) d_Mo_learn_41 (fun H locs hP hD hS => ?_)
      have hP : va_P (dC, dI) cl_all (xw cI cJ cB cZ cN ha NA (m_rowCounts t0.toNatClampNeg) u_9 u_8 m_small m_pivots m_freeRows m_freeColumns m_smallMinor m_fields m_rowCounts m_elements m_numbers m_known m_ranks m_rankOf m_signOf m_order m_sizes m_coefficients m_choices m_sorted ++ po cI NA ND pn pm pd) H := hP
      have hD : va_D A (xw cI cJ cB cZ cN ha NA (m_rowCounts t0.toNatClampNeg) u_9 u_8 m_small m_pivots m_freeRows m_freeColumns m_smallMinor m_fields m_rowCounts m_elements m_numbers m_known m_ranks m_rankOf m_signOf m_order m_sizes m_coefficients m_choices m_sorted ++ po cI NA ND pn pm pd) := hD
      refine lv_iconst (v := 0) hx hb d_Mo_learn_44 (by decide) ?_
      refine lv_istore_n (lv' := [(2, .int 0), (0, .ref (ha 0)), (1, .int t0)]) hx hb d_Mo_learn_45 rfl hl (by decide) rfl (fun ls hl => ?_)
      refine ck_jn_W h (fun k' => ∀ (w_13 : Nat → Int32) (pn_14 : Nat → Int32) (pm_15 : Nat → Int32) (pd_16 : Nat → Nat → Int32), k' w_13 pn_14 pm_15 pd_16 = some r → ∀ (H : Heap) (locs : List Loc), va_P (dC, dI) cl_all (xw cI cJ cB cZ cN ha NA (m_rowCounts t0.toNatClampNeg) u_9 u_8 w_13 m_pivots m_freeRows m_freeColumns m_smallMinor m_fields m_rowCounts m_elements m_numbers m_known m_ranks m_rankOf m_signOf m_order m_sizes m_coefficients m_choices m_sorted ++ po cI NA ND pn_14 pm_15 pd_16) H → va_D A (xw cI cJ cB cZ cN ha NA (m_rowCounts t0.toNatClampNeg) u_9 u_8 w_13 m_pivots m_freeRows m_freeColumns m_smallMinor m_fields m_rowCounts m_elements m_numbers m_known m_ranks m_rankOf m_signOf m_order m_sizes m_coefficients m_choices m_sorted ++ po cI NA ND pn_14 pm_15 pd_16) → va_S A s.heap H locs → ∀ ls : Array Slot, lv_has ls 4 [(0, .ref (ha 0)), (1, .int t0)] → W p l e ({ frames := 7, cells := 0, slots := 0, locals := 174 } : Room) s m AR below meth c H locs 0 0 QQ (F0 m 100 ls [])) ?_ ?_
      · intro w_13 pn_14 pm_15 pd_16 h H locs hP hD hS ls hl
        refine lv_aload_n hx hb d_Mo_learn_100 rfl (lv_at hl 0 rfl) ?_
        obtain ⟨u_17, u_18, u_19, u_20, u_21, u_22, hc_23, h⟩ := ck_b6_s h
        have hPc := hP
        have hDc := hD
        have hFc := pw_free hDc hS hA
        refine va_callv (va_runV (As := []) (rest := []) ⟨hx, hb, hml, hown, hts⟩ (c_R_reduce l dC dI cI cJ cB cZ cT cN H.size ha NA ND (m_rowCounts t0.toNatClampNeg) u_9 u_8 w_13 m_pivots m_freeRows m_freeColumns m_smallMinor m_fields m_rowCounts m_elements m_numbers m_known m_ranks m_rankOf m_signOf m_order m_sizes m_coefficients m_choices m_sorted pn_14 pm_15 pd_16 _ hc_23) (cwV 0 hts (tb_V tw_498 tw_500 tp_22 tw_6 tw_501) rfl rfl rfl (by decide +kernel) ⟨Nat.le_of_ble_eq_true rfl, Nat.le_of_ble_eq_true rfl⟩) ⟨fun a U g mk q => by obtain ⟨q0, q1, qP, qK, qN, qD⟩ := q; exact ⟨q0, q1, qP, va_K.moved (u := U) (U := U.calling g mk a) (Vm.Alike.refl U.vm) qK, qN.same rfl, qD⟩, va_recv hK hPc (ci := 6) (q0 := 0) rfl rfl, fun U hU hW => ⟨rfl, by rw [hU], by rw [hU]; exact hPc, va_K.moved hW.alike hK, hN.warm hW, hDc.weaken (fun _ _ _ _ => trivial)⟩⟩ rfl rfl hl.1 rfl (lv_room (Nat.le_of_ble_eq_true rfl)) d_Mo_learn_101 ⟨Nat.zero_le _, Nat.zero_le _⟩) hS (fun q _ h => hFc q h) hFc (fun u t H1 locs ht hvm hw hB hz1 hk1 hS => ?_)
        replace hw := hw.symm
        subst hw
        obtain ⟨hP1, -, hD1⟩ := hB
        rw [ht] at hP1
        have hP : va_P (dC, dI) cl_all (xw cI cJ cB cZ cN ha NA u_18 u_9 u_8 u_17 u_19 m_freeRows m_freeColumns m_smallMinor m_fields m_rowCounts m_elements m_numbers m_known m_ranks m_rankOf m_signOf m_order m_sizes m_coefficients m_choices m_sorted ++ po cI NA ND u_20 u_21 u_22) H1 := hP1
        have hD : va_D A (xw cI cJ cB cZ cN ha NA u_18 u_9 u_8 u_17 u_19 m_freeRows m_freeColumns m_smallMinor m_fields m_rowCounts m_elements m_numbers m_known m_ranks m_rankOf m_signOf m_order m_sizes m_coefficients m_choices m_sorted ++ po cI NA ND u_20 u_21 u_22) := hD1.weaken (fun _ _ _ h => hFc _ h)
        generalize H1 = H at hP hS ⊢
        have hP : va_P (dC, dI) cl_all (xw cI cJ cB cZ cN ha NA u_18 u_9 u_8 u_17 u_19 m_freeRows m_freeColumns m_smallMinor m_fields m_rowCounts m_elements m_numbers m_known m_ranks m_rankOf m_signOf m_order m_sizes m_coefficients m_choices m_sorted ++ po cI NA ND u_20 u_21 u_22) H := hP
        have hD : va_D A (xw cI cJ cB cZ cN ha NA u_18 u_9 u_8 u_17 u_19 m_freeRows m_freeColumns m_smallMinor m_fields m_rowCounts m_elements m_numbers m_known m_ranks m_rankOf m_signOf m_order m_sizes m_coefficients m_choices m_sorted ++ po cI NA ND u_20 u_21 u_22) := hD
        refine lv_aload_n hx hb d_Mo_learn_104 rfl (lv_at hl 0 rfl) ?_
        refine va_get (D := (dC, dI)) (ci := 6) (v := .ref (ha 13)) (C := "BasisWalkModel") (T := T_Mo) (N := 31) hx hb hts iw1 hown hK hP 0 rfl rfl 23 (by decide) fl6 (fun _ h9 => h9) rfl d_Mo_learn_105 ?_
        refine lv_iload_n hx hb d_Mo_learn_108 rfl (lv_at hl 1 rfl) ?_
        refine lv_aload_n hx hb d_Mo_learn_109 rfl (lv_at hl 0 rfl) ?_
        refine va_get (D := (dC, dI)) (ci := 6) (v := .int u_18) (C := "BasisWalkModel") (T := T_Mo) (N := 31) hx hb hts iw1 hown hK hP 0 rfl rfl 10 (by decide) fl5 (fun _ h9 => h9) rfl d_Mo_learn_110 ?_
        obtain ⟨g_24, h⟩ := ck_in_s h
        refine va_iast hx hb hK hP hD hS 13 0 rfl rfl g_24 d_Mo_learn_113 (fun H locs hP hD hS => ?_)
        have hP : va_P (dC, dI) cl_all (xw cI cJ cB cZ cN ha NA u_18 u_9 u_8 u_17 u_19 m_freeRows m_freeColumns m_smallMinor m_fields m_rowCounts m_elements m_numbers m_known (upd m_ranks t0.toNatClampNeg u_18) m_rankOf m_signOf m_order m_sizes m_coefficients m_choices m_sorted ++ po cI NA ND u_20 u_21 u_22) H := hP
        have hD : va_D A (xw cI cJ cB cZ cN ha NA u_18 u_9 u_8 u_17 u_19 m_freeRows m_freeColumns m_smallMinor m_fields m_rowCounts m_elements m_numbers m_known (upd m_ranks t0.toNatClampNeg u_18) m_rankOf m_signOf m_order m_sizes m_coefficients m_choices m_sorted ++ po cI NA ND u_20 u_21 u_22) := hD
        refine lv_aload_n hx hb d_Mo_learn_114 rfl (lv_at hl 0 rfl) ?_
        refine lv_iload_n hx hb d_Mo_learn_115 rfl (lv_at hl 1 rfl) ?_
        obtain ⟨u_25, u_26, u_27, u_28, u_29, u_30, u_31, u_32, hc_33, h⟩ := ck_b8_s h
        have hPc := hP
        have hDc := hD
        have hFc := pw_free hDc hS hA
        refine va_callv (va_runV (As := [.int t0]) (rest := []) ⟨hx, hb, hml, hown, hts⟩ (c_R_measure l dC dI cI cJ cB cZ cT cN H.size ha NA ND u_18 u_9 u_8 u_17 u_19 m_freeRows m_freeColumns m_smallMinor m_fields m_rowCounts m_elements m_numbers m_known (upd m_ranks t0.toNatClampNeg u_18) m_rankOf m_signOf m_order m_sizes m_coefficients m_choices m_sorted u_20 u_21 u_22 t0 _ hc_33) (cwV 1 hts (tb_V tw_572 tw_574 tp_30 tw_6 tw_575) rfl rfl rfl (by decide +kernel) ⟨Nat.le_of_ble_eq_true rfl, Nat.le_of_ble_eq_true rfl⟩) ⟨fun a U g mk q => by obtain ⟨q0, q1, qP, qK, qN, qD⟩ := q; exact ⟨q0, q1, qP, va_K.moved (u := U) (U := U.calling g mk a) (Vm.Alike.refl U.vm) qK, qN.same rfl, qD⟩, va_recv hK hPc (ci := 6) (q0 := 0) rfl rfl, fun U hU hW => ⟨rfl, by rw [hU], by rw [hU]; exact hPc, va_K.moved hW.alike hK, hN.warm hW, hDc.weaken (fun _ _ _ _ => trivial)⟩⟩ rfl rfl hl.1 rfl (lv_room (Nat.le_of_ble_eq_true rfl)) d_Mo_learn_116 ⟨Nat.zero_le _, Nat.zero_le _⟩) hS (fun q _ h => hFc q h) hFc (fun u t H1 locs ht hvm hw hB hz1 hk1 hS => ?_)
        replace hw := hw.symm
        subst hw
        obtain ⟨hP1, -, hD1⟩ := hB
        rw [ht] at hP1
        have hP : va_P (dC, dI) cl_all (xw cI cJ cB cZ cN ha NA u_18 u_9 u_8 u_17 u_19 u_25 u_26 u_27 m_fields m_rowCounts m_elements m_numbers m_known (upd m_ranks t0.toNatClampNeg u_18) u_28 u_29 m_order m_sizes m_coefficients m_choices m_sorted ++ po cI NA ND u_30 u_31 u_32) H1 := hP1
        have hD : va_D A (xw cI cJ cB cZ cN ha NA u_18 u_9 u_8 u_17 u_19 u_25 u_26 u_27 m_fields m_rowCounts m_elements m_numbers m_known (upd m_ranks t0.toNatClampNeg u_18) u_28 u_29 m_order m_sizes m_coefficients m_choices m_sorted ++ po cI NA ND u_30 u_31 u_32) := hD1.weaken (fun _ _ _ h => hFc _ h)
        generalize H1 = H at hP hS ⊢
        have hP : va_P (dC, dI) cl_all (xw cI cJ cB cZ cN ha NA u_18 u_9 u_8 u_17 u_19 u_25 u_26 u_27 m_fields m_rowCounts m_elements m_numbers m_known (upd m_ranks t0.toNatClampNeg u_18) u_28 u_29 m_order m_sizes m_coefficients m_choices m_sorted ++ po cI NA ND u_30 u_31 u_32) H := hP
        have hD : va_D A (xw cI cJ cB cZ cN ha NA u_18 u_9 u_8 u_17 u_19 u_25 u_26 u_27 m_fields m_rowCounts m_elements m_numbers m_known (upd m_ranks t0.toNatClampNeg u_18) u_28 u_29 m_order m_sizes m_coefficients m_choices m_sorted ++ po cI NA ND u_30 u_31 u_32) := hD
        refine lv_aload_n hx hb d_Mo_learn_119 rfl (lv_at hl 0 rfl) ?_
        refine va_get (D := (dC, dI)) (ci := 6) (v := .ref (ha 12)) (C := "BasisWalkModel") (T := T_Mo) (N := 31) hx hb hts iw1 hown hK hP 0 rfl rfl 22 (by decide) fl0 (fun _ h9 => h9) rfl d_Mo_learn_120 ?_
        refine lv_iload_n hx hb d_Mo_learn_123 rfl (lv_at hl 1 rfl) ?_
        refine lv_iconst (v := 1) hx hb d_Mo_learn_124 (by decide) ?_
        obtain ⟨g_34, h⟩ := ck_in_s h
        refine va_zast hx hb hK hP hD hS 12 3 rfl rfl g_34 d_Mo_learn_125 (fun H locs hP hD hS => ?_)
        have hP : va_P (dC, dI) cl_all (xw cI cJ cB cZ cN ha NA u_18 u_9 u_8 u_17 u_19 u_25 u_26 u_27 m_fields m_rowCounts m_elements m_numbers (upd m_known t0.toNatClampNeg (vp_nar .boolean 1)) (upd m_ranks t0.toNatClampNeg u_18) u_28 u_29 m_order m_sizes m_coefficients m_choices m_sorted ++ po cI NA ND u_30 u_31 u_32) H := hP
        have hD : va_D A (xw cI cJ cB cZ cN ha NA u_18 u_9 u_8 u_17 u_19 u_25 u_26 u_27 m_fields m_rowCounts m_elements m_numbers (upd m_known t0.toNatClampNeg (vp_nar .boolean 1)) (upd m_ranks t0.toNatClampNeg u_18) u_28 u_29 m_order m_sizes m_coefficients m_choices m_sorted ++ po cI NA ND u_30 u_31 u_32) := hD
        refine lv_iconst (v := 1) hx hb d_Mo_learn_126 (by decide) ?_
        obtain rfl := Option.some.inj h
        subst hQ
        exact W.zret (ty := .boolean) (v := 1) hx hb hr rfl (fun t ht hW => ⟨⟨1, (u_18, u_9, u_8, u_17, u_19, u_25, u_26, u_27, (upd m_known t0.toNatClampNeg (vp_nar .boolean 1)), (upd m_ranks t0.toNatClampNeg u_18), u_28, u_29, u_30, u_31, u_32), rfl, rfl, by rw [ht]; exact hP, va_K.moved hW.alike hK, hD⟩, hS.F ht⟩) hS.2.2 d_Mo_learn_127
      · intro k_100 J_100 h
        refine lo5_W (r := r) (fun (v2_35 : Int32) (w_36 : Nat → Int32) (pn_37 : Nat → Int32) (pm_38 : Nat → Int32) (pd_39 : Nat → Nat → Int32) => ∀ (H : Heap) (locs : List Loc), va_P (dC, dI) cl_all (xw cI cJ cB cZ cN ha NA (m_rowCounts t0.toNatClampNeg) u_9 u_8 w_36 m_pivots m_freeRows m_freeColumns m_smallMinor m_fields m_rowCounts m_elements m_numbers m_known m_ranks m_rankOf m_signOf m_order m_sizes m_coefficients m_choices m_sorted ++ po cI NA ND pn_37 pm_38 pd_39) H → va_D A (xw cI cJ cB cZ cN ha NA (m_rowCounts t0.toNatClampNeg) u_9 u_8 w_36 m_pivots m_freeRows m_freeColumns m_smallMinor m_fields m_rowCounts m_elements m_numbers m_known m_ranks m_rankOf m_signOf m_order m_sizes m_coefficients m_choices m_sorted ++ po cI NA ND pn_37 pm_38 pd_39) → va_S A s.heap H locs → ∀ ls : Array Slot, lv_has ls 4 [(0, .ref (ha 0)), (1, .int t0), (2, .int v2_35)] → W p l e ({ frames := 7, cells := 0, slots := 0, locals := 174 } : Room) s m AR below meth c H locs 0 0 QQ (F0 m 46 ls [])) ?_ _ _ _ _ _ _ h _ _ hP hD hS _ (lv_sub hl [1, 2, 0] rfl)
        intro k_46 v2_35 w_36 pn_37 pm_38 pd_39 J_46 h H locs hP hD hS ls hl
        refine lv_iload_n hx hb d_Mo_learn_46 rfl (lv_at hl 2 rfl) ?_
        refine lv_aload_n hx hb d_Mo_learn_47 rfl (lv_at hl 0 rfl) ?_
        refine va_get (D := (dC, dI)) (ci := 6) (v := .int (m_rowCounts t0.toNatClampNeg)) (C := "BasisWalkModel") (T := T_Mo) (N := 31) hx hb hts iw1 hown hK hP 0 rfl rfl 10 (by decide) fl5 (fun _ h9 => h9) rfl d_Mo_learn_48 ?_
        refine lv_icmp_ge (tgt := 100) hx hb d_Mo_learn_51 (by decide) (fun c_40 => ?_) (fun c_40 => ?_)
        · replace h := ck_if_t h c_40
          exact J_100 _ _ _ _ h _ _ hP hD hS _ (lv_sub hl [0, 1] rfl)
        · replace h := ck_if_f h c_40
          refine lv_iconst (v := 0) hx hb d_Mo_learn_54 (by decide) ?_
          refine lv_istore_n (lv' := [(3, .int 0), (0, .ref (ha 0)), (1, .int t0), (2, .int v2_35)]) hx hb d_Mo_learn_55 rfl hl (by decide) rfl (fun ls hl => ?_)
          refine ck_jn_W h (fun k' => ∀ (w_41 : Nat → Int32) (pn_42 : Nat → Int32) (pm_43 : Nat → Int32) (pd_44 : Nat → Nat → Int32), k' w_41 pn_42 pm_43 pd_44 = some r → ∀ (H : Heap) (locs : List Loc), va_P (dC, dI) cl_all (xw cI cJ cB cZ cN ha NA (m_rowCounts t0.toNatClampNeg) u_9 u_8 w_41 m_pivots m_freeRows m_freeColumns m_smallMinor m_fields m_rowCounts m_elements m_numbers m_known m_ranks m_rankOf m_signOf m_order m_sizes m_coefficients m_choices m_sorted ++ po cI NA ND pn_42 pm_43 pd_44) H → va_D A (xw cI cJ cB cZ cN ha NA (m_rowCounts t0.toNatClampNeg) u_9 u_8 w_41 m_pivots m_freeRows m_freeColumns m_smallMinor m_fields m_rowCounts m_elements m_numbers m_known m_ranks m_rankOf m_signOf m_order m_sizes m_coefficients m_choices m_sorted ++ po cI NA ND pn_42 pm_43 pd_44) → va_S A s.heap H locs → ∀ ls : Array Slot, lv_has ls 4 [(0, .ref (ha 0)), (1, .int t0), (2, .int v2_35)] → W p l e ({ frames := 7, cells := 0, slots := 0, locals := 174 } : Room) s m AR below meth c H locs 0 0 QQ (F0 m 94 ls [])) ?_ ?_
          · intro w_41 pn_42 pm_43 pd_44 h H locs hP hD hS ls hl
            obtain ⟨x_45, ex_45⟩ : ∃ y : Int32, y = v2_35 + 1 := ⟨_, rfl⟩
            replace h := ck_nm_s h ex_45
            refine lv_iinc (v := x_45) (lv' := [(2, .int x_45), (0, .ref (ha 0)), (1, .int t0)]) hx hb d_Mo_learn_94 hl (k := 2) rfl (by rw [ex_45]; rfl) (by decide) rfl (fun ls hl => ?_)
            refine lv_goto (tgt := 46) hx hb d_Mo_learn_97 (by decide) ?_
            exact J_46 _ _ _ _ _ h _ _ hP hD hS _ (lv_sub hl [1, 2, 0] rfl)
          · intro k_94 J_94 h
            refine lo5_W (r := r) (fun (v3_46 : Int32) (w_47 : Nat → Int32) (pn_48 : Nat → Int32) (pm_49 : Nat → Int32) (pd_50 : Nat → Nat → Int32) => ∀ (H : Heap) (locs : List Loc), va_P (dC, dI) cl_all (xw cI cJ cB cZ cN ha NA (m_rowCounts t0.toNatClampNeg) u_9 u_8 w_47 m_pivots m_freeRows m_freeColumns m_smallMinor m_fields m_rowCounts m_elements m_numbers m_known m_ranks m_rankOf m_signOf m_order m_sizes m_coefficients m_choices m_sorted ++ po cI NA ND pn_48 pm_49 pd_50) H → va_D A (xw cI cJ cB cZ cN ha NA (m_rowCounts t0.toNatClampNeg) u_9 u_8 w_47 m_pivots m_freeRows m_freeColumns m_smallMinor m_fields m_rowCounts m_elements m_numbers m_known m_ranks m_rankOf m_signOf m_order m_sizes m_coefficients m_choices m_sorted ++ po cI NA ND pn_48 pm_49 pd_50) → va_S A s.heap H locs → ∀ ls : Array Slot, lv_has ls 4 [(0, .ref (ha 0)), (1, .int t0), (2, .int v2_35), (3, .int v3_46)] → W p l e ({ frames := 7, cells := 0, slots := 0, locals := 174 } : Room) s m AR below meth c H locs 0 0 QQ (F0 m 56 ls [])) ?_ _ _ _ _ _ _ h _ _ hP hD hS _ (lv_sub hl [1, 2, 3, 0] rfl)
            intro k_56 v3_46 w_47 pn_48 pm_49 pd_50 J_56 h H locs hP hD hS ls hl
            refine lv_iload_n hx hb d_Mo_learn_56 rfl (lv_at hl 3 rfl) ?_
            refine lv_aload_n hx hb d_Mo_learn_57 rfl (lv_at hl 0 rfl) ?_
            refine va_get (D := (dC, dI)) (ci := 6) (v := .int u_9) (C := "BasisWalkModel") (T := T_Mo) (N := 31) hx hb hts iw1 hown hK hP 0 rfl rfl 11 (by decide) fl7 (fun _ h9 => h9) rfl d_Mo_learn_58 ?_
            refine lv_icmp_ge (tgt := 94) hx hb d_Mo_learn_61 (by decide) (fun c_51 => ?_) (fun c_51 => ?_)
            · replace h := ck_if_t h c_51
              exact J_94 _ _ _ _ h _ _ hP hD hS _ (lv_sub hl [0, 1, 2] rfl)
            · replace h := ck_if_f h c_51
              refine lv_aload_n hx hb d_Mo_learn_64 rfl (lv_at hl 0 rfl) ?_
              refine lv_iload_n hx hb d_Mo_learn_65 rfl (lv_at hl 2 rfl) ?_
              refine lv_iload_n hx hb d_Mo_learn_66 rfl (lv_at hl 3 rfl) ?_
              refine lv_aload_n hx hb d_Mo_learn_67 rfl (lv_at hl 0 rfl) ?_
              refine va_get (D := (dC, dI)) (ci := 6) (v := .ref (ha 11)) (C := "BasisWalkModel") (T := T_Mo) (N := 31) hx hb hts iw1 hown hK hP 0 rfl rfl 21 (by decide) fl8 (fun _ h9 => h9) rfl d_Mo_learn_68 ?_
              refine lv_sipush (v := 144) hx hb d_Mo_learn_71 (by decide) ?_
              refine lv_iload_n hx hb d_Mo_learn_74 rfl (lv_at hl 1 rfl) ?_
              refine lv_imul hx hb d_Mo_learn_75 ?_
              refine lv_bipush (v := 12) hx hb d_Mo_learn_76 (by decide) ?_
              refine lv_iload_n hx hb d_Mo_learn_78 rfl (lv_at hl 2 rfl) ?_
              refine lv_imul hx hb d_Mo_learn_79 ?_
              refine lv_iadd hx hb d_Mo_learn_80 ?_
              refine lv_iload_n hx hb d_Mo_learn_81 rfl (lv_at hl 3 rfl) ?_
              refine lv_iadd hx hb d_Mo_learn_82 ?_
              obtain ⟨g_52, h⟩ := ck_in_s h
              refine va_iald hx hb hK hP 11 0 rfl rfl g_52 d_Mo_learn_83 ?_
              refine lv_i2l hx hb d_Mo_learn_84 rfl ?_
              obtain ⟨u_53, u_54, u_55, u_56, hc_57, h⟩ := ck_b4_s h
              have hPc := hP
              have hDc := hD
              have hFc := pw_free hDc hS hA
              refine va_callv (va_runV (As := [.int v2_35, .int v3_46, .long ((m_numbers (((144 * t0) + (12 * v2_35)) + v3_46).toNatClampNeg).toInt64)]) (rest := []) ⟨hx, hb, hml, hown, hts⟩ (c_R_lay l dC dI cI cJ cB cZ cT cN H.size ha NA ND (m_rowCounts t0.toNatClampNeg) u_9 u_8 w_47 m_pivots m_freeRows m_freeColumns m_smallMinor m_fields m_rowCounts m_elements m_numbers m_known m_ranks m_rankOf m_signOf m_order m_sizes m_coefficients m_choices m_sorted pn_48 pm_49 pd_50 v2_35 v3_46 ((m_numbers (((144 * t0) + (12 * v2_35)) + v3_46).toNatClampNeg).toInt64) _ hc_57) (cwV 3 hts (tb_V tw_481 tw_483 tp_20 tw_6 tw_484) rfl rfl rfl (by decide +kernel) ⟨Nat.le_of_ble_eq_true rfl, Nat.le_of_ble_eq_true rfl⟩) ⟨fun a U g mk q => by obtain ⟨q0, q1, qP, qK, qN, qD⟩ := q; exact ⟨q0, q1, qP, va_K.moved (u := U) (U := U.calling g mk a) (Vm.Alike.refl U.vm) qK, qN.same rfl, qD⟩, va_recv hK hPc (ci := 6) (q0 := 0) rfl rfl, fun U hU hW => ⟨rfl, by rw [hU], by rw [hU]; exact hPc, va_K.moved hW.alike hK, hN.warm hW, hDc.weaken (fun _ _ _ _ => trivial)⟩⟩ rfl rfl hl.1 rfl (lv_room (Nat.le_of_ble_eq_true rfl)) d_Mo_learn_85 ⟨Nat.zero_le _, Nat.zero_le _⟩) hS (fun q _ h => hFc q h) hFc (fun u t H1 locs ht hvm hw hB hz1 hk1 hS => ?_)
              replace hw := hw.symm
              subst hw
              obtain ⟨hP1, -, hD1⟩ := hB
              rw [ht] at hP1
              have hP : va_P (dC, dI) cl_all (xw cI cJ cB cZ cN ha NA (m_rowCounts t0.toNatClampNeg) u_9 u_8 u_53 m_pivots m_freeRows m_freeColumns m_smallMinor m_fields m_rowCounts m_elements m_numbers m_known m_ranks m_rankOf m_signOf m_order m_sizes m_coefficients m_choices m_sorted ++ po cI NA ND u_54 u_55 u_56) H1 := hP1
              have hD : va_D A (xw cI cJ cB cZ cN ha NA (m_rowCounts t0.toNatClampNeg) u_9 u_8 u_53 m_pivots m_freeRows m_freeColumns m_smallMinor m_fields m_rowCounts m_elements m_numbers m_known m_ranks m_rankOf m_signOf m_order m_sizes m_coefficients m_choices m_sorted ++ po cI NA ND u_54 u_55 u_56) := hD1.weaken (fun _ _ _ h => hFc _ h)
              generalize H1 = H at hP hS ⊢
              have hP : va_P (dC, dI) cl_all (xw cI cJ cB cZ cN ha NA (m_rowCounts t0.toNatClampNeg) u_9 u_8 u_53 m_pivots m_freeRows m_freeColumns m_smallMinor m_fields m_rowCounts m_elements m_numbers m_known m_ranks m_rankOf m_signOf m_order m_sizes m_coefficients m_choices m_sorted ++ po cI NA ND u_54 u_55 u_56) H := hP
              have hD : va_D A (xw cI cJ cB cZ cN ha NA (m_rowCounts t0.toNatClampNeg) u_9 u_8 u_53 m_pivots m_freeRows m_freeColumns m_smallMinor m_fields m_rowCounts m_elements m_numbers m_known m_ranks m_rankOf m_signOf m_order m_sizes m_coefficients m_choices m_sorted ++ po cI NA ND u_54 u_55 u_56) := hD
              obtain ⟨x_58, ex_58⟩ : ∃ y : Int32, y = v3_46 + 1 := ⟨_, rfl⟩
              replace h := ck_nm_s h ex_58
              refine lv_iinc (v := x_58) (lv' := [(3, .int x_58), (0, .ref (ha 0)), (1, .int t0), (2, .int v2_35)]) hx hb d_Mo_learn_88 hl (k := 3) rfl (by rw [ex_58]; rfl) (by decide) rfl (fun ls hl => ?_)
              refine lv_goto (tgt := 56) hx hb d_Mo_learn_91 (by decide) ?_
              exact J_56 _ _ _ _ _ h _ _ hP hD hS _ (lv_sub hl [1, 2, 3, 0] rfl)
  · replace h := ck_if_t h c_3
    refine lv_iconst (v := 0) hx hb d_Mo_learn_7 (by decide) ?_
    obtain rfl := Option.some.inj h
    subst hQ
    exact W.zret (ty := .boolean) (v := 0) hx hb hr rfl (fun t ht hW => ⟨⟨0, (m_rows, m_columns, m_prime, m_small, m_pivots, m_freeRows, m_freeColumns, m_smallMinor, m_known, m_ranks, m_rankOf, m_signOf, pn, pm, pd), rfl, rfl, by rw [ht]; exact hP, va_K.moved hW.alike hK, hD⟩, hS.F ht⟩) hS.2.2 d_Mo_learn_8
