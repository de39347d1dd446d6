theorem d_Mo_reduce_0 : decode prog_7_method_10_code 0 = .ok (.iconst 0, 1) := by decide +kernel
theorem d_Mo_reduce_1 : decode prog_7_method_10_code 1 = .ok (.istore_n 1, 1) := by decide +kernel
theorem d_Mo_reduce_2 : decode prog_7_method_10_code 2 = .ok (.iconst 0, 1) := by decide +kernel
theorem d_Mo_reduce_3 : decode prog_7_method_10_code 3 = .ok (.istore_n 2, 1) := by decide +kernel
theorem d_Mo_reduce_4 : decode prog_7_method_10_code 4 = .ok (.iload_n 2, 1) := by decide +kernel
theorem d_Mo_reduce_5 : decode prog_7_method_10_code 5 = .ok (.aload_n 0, 1) := by decide +kernel
theorem d_Mo_reduce_6 : decode prog_7_method_10_code 6 = .ok (.getfield 41, 3) := by decide +kernel
theorem d_Mo_reduce_9 : decode prog_7_method_10_code 9 = .ok (.if_icmp .ge 103, 3) := by decide +kernel
theorem d_Mo_reduce_12 : decode prog_7_method_10_code 12 = .ok (.iload_n 1, 1) := by decide +kernel
theorem d_Mo_reduce_13 : decode prog_7_method_10_code 13 = .ok (.istore_n 3, 1) := by decide +kernel
theorem d_Mo_reduce_14 : decode prog_7_method_10_code 14 = .ok (.iload_n 3, 1) := by decide +kernel
theorem d_Mo_reduce_15 : decode prog_7_method_10_code 15 = .ok (.aload_n 0, 1) := by decide +kernel
theorem d_Mo_reduce_16 : decode prog_7_method_10_code 16 = .ok (.getfield 44, 3) := by decide +kernel
theorem d_Mo_reduce_19 : decode prog_7_method_10_code 19 = .ok (.if_icmp .ge 18, 3) := by decide +kernel
theorem d_Mo_reduce_22 : decode prog_7_method_10_code 22 = .ok (.aload_n 0, 1) := by decide +kernel
theorem d_Mo_reduce_23 : decode prog_7_method_10_code 23 = .ok (.iload_n 3, 1) := by decide +kernel
theorem d_Mo_reduce_24 : decode prog_7_method_10_code 24 = .ok (.iload_n 2, 1) := by decide +kernel
theorem d_Mo_reduce_25 : decode prog_7_method_10_code 25 = .ok (.invokevirtual 96, 3) := by decide +kernel
theorem d_Mo_reduce_28 : decode prog_7_method_10_code 28 = .ok (.ifCond .eq 9, 3) := by decide +kernel
theorem d_Mo_reduce_31 : decode prog_7_method_10_code 31 = .ok (.iinc 3 1, 3) := by decide +kernel
theorem d_Mo_reduce_34 : decode prog_7_method_10_code 34 = .ok (.goto (-20), 3) := by decide +kernel
theorem d_Mo_reduce_37 : decode prog_7_method_10_code 37 = .ok (.iload_n 3, 1) := by decide +kernel
theorem d_Mo_reduce_38 : decode prog_7_method_10_code 38 = .ok (.aload_n 0, 1) := by decide +kernel
theorem d_Mo_reduce_39 : decode prog_7_method_10_code 39 = .ok (.getfield 44, 3) := by decide +kernel
theorem d_Mo_reduce_42 : decode prog_7_method_10_code 42 = .ok (.if_icmp .ne 6, 3) := by decide +kernel
theorem d_Mo_reduce_45 : decode prog_7_method_10_code 45 = .ok (.goto 61, 3) := by decide +kernel
theorem d_Mo_reduce_48 : decode prog_7_method_10_code 48 = .ok (.aload_n 0, 1) := by decide +kernel
theorem d_Mo_reduce_49 : decode prog_7_method_10_code 49 = .ok (.iload_n 3, 1) := by decide +kernel
theorem d_Mo_reduce_50 : decode prog_7_method_10_code 50 = .ok (.iload_n 1, 1) := by decide +kernel
theorem d_Mo_reduce_51 : decode prog_7_method_10_code 51 = .ok (.invokevirtual 100, 3) := by decide +kernel
theorem d_Mo_reduce_54 : decode prog_7_method_10_code 54 = .ok (.iconst 0, 1) := by decide +kernel
theorem d_Mo_reduce_55 : decode prog_7_method_10_code 55 = .ok (.istore 4, 2) := by decide +kernel
theorem d_Mo_reduce_57 : decode prog_7_method_10_code 57 = .ok (.iload 4, 2) := by decide +kernel
theorem d_Mo_reduce_59 : decode prog_7_method_10_code 59 = .ok (.aload_n 0, 1) := by decide +kernel
theorem d_Mo_reduce_60 : decode prog_7_method_10_code 60 = .ok (.getfield 44, 3) := by decide +kernel
theorem d_Mo_reduce_63 : decode prog_7_method_10_code 63 = .ok (.if_icmp .ge 33, 3) := by decide +kernel
theorem d_Mo_reduce_66 : decode prog_7_method_10_code 66 = .ok (.iload 4, 2) := by decide +kernel
theorem d_Mo_reduce_68 : decode prog_7_method_10_code 68 = .ok (.iload_n 1, 1) := by decide +kernel
theorem d_Mo_reduce_69 : decode prog_7_method_10_code 69 = .ok (.if_icmp .eq 21, 3) := by decide +kernel
theorem d_Mo_reduce_72 : decode prog_7_method_10_code 72 = .ok (.aload_n 0, 1) := by decide +kernel
theorem d_Mo_reduce_73 : decode prog_7_method_10_code 73 = .ok (.iload 4, 2) := by decide +kernel
theorem d_Mo_reduce_75 : decode prog_7_method_10_code 75 = .ok (.iload_n 2, 1) := by decide +kernel
theorem d_Mo_reduce_76 : decode prog_7_method_10_code 76 = .ok (.invokevirtual 96, 3) := by decide +kernel
theorem d_Mo_reduce_79 : decode prog_7_method_10_code 79 = .ok (.ifCond .ne 11, 3) := by decide +kernel
theorem d_Mo_reduce_82 : decode prog_7_method_10_code 82 = .ok (.aload_n 0, 1) := by decide +kernel
theorem d_Mo_reduce_83 : decode prog_7_method_10_code 83 = .ok (.iload 4, 2) := by decide +kernel
theorem d_Mo_reduce_85 : decode prog_7_method_10_code 85 = .ok (.iload_n 1, 1) := by decide +kernel
theorem d_Mo_reduce_86 : decode prog_7_method_10_code 86 = .ok (.iload_n 2, 1) := by decide +kernel
theorem d_Mo_reduce_87 : decode prog_7_method_10_code 87 = .ok (.invokevirtual 104, 3) := by decide +kernel
theorem d_Mo_reduce_90 : decode prog_7_method_10_code 90 = .ok (.iinc 4 1, 3) := by decide +kernel
theorem d_Mo_reduce_93 : decode prog_7_method_10_code 93 = .ok (.goto (-36), 3) := by decide +kernel
theorem d_Mo_reduce_96 : decode prog_7_method_10_code 96 = .ok (.aload_n 0, 1) := by decide +kernel
theorem d_Mo_reduce_97 : decode prog_7_method_10_code 97 = .ok (.getfield 108, 3) := by decide +kernel
theorem d_Mo_reduce_100 : decode prog_7_method_10_code 100 = .ok (.iload_n 1, 1) := by decide +kernel
theorem d_Mo_reduce_101 : decode prog_7_method_10_code 101 = .ok (.iload_n 2, 1) := by decide +kernel
theorem d_Mo_reduce_102 : decode prog_7_method_10_code 102 = .ok (.iastore, 1) := by decide +kernel
theorem d_Mo_reduce_103 : decode prog_7_method_10_code 103 = .ok (.iinc 1 1, 3) := by decide +kernel
theorem d_Mo_reduce_106 : decode prog_7_method_10_code 106 = .ok (.iinc 2 1, 3) := by decide +kernel
theorem d_Mo_reduce_109 : decode prog_7_method_10_code 109 = .ok (.goto (-105), 3) := by decide +kernel
theorem d_Mo_reduce_112 : decode prog_7_method_10_code 112 = .ok (.aload_n 0, 1) := by decide +kernel
theorem d_Mo_reduce_113 : decode prog_7_method_10_code 113 = .ok (.iload_n 1, 1) := by decide +kernel
theorem d_Mo_reduce_114 : decode prog_7_method_10_code 114 = .ok (.putfield 44, 3) := by decide +kernel
theorem d_Mo_reduce_117 : decode prog_7_method_10_code 117 = .ok (.iconst 0, 1) := by decide +kernel
theorem d_Mo_reduce_118 : decode prog_7_method_10_code 118 = .ok (.istore_n 2, 1) := by decide +kernel
theorem d_Mo_reduce_119 : decode prog_7_method_10_code 119 = .ok (.iload_n 2, 1) := by decide +kernel
theorem d_Mo_reduce_120 : decode prog_7_method_10_code 120 = .ok (.aload_n 0, 1) := by decide +kernel
theorem d_Mo_reduce_121 : decode prog_7_method_10_code 121 = .ok (.getfield 44, 3) := by decide +kernel
theorem d_Mo_reduce_124 : decode prog_7_method_10_code 124 = .ok (.if_icmp .ge 14, 3) := by decide +kernel
theorem d_Mo_reduce_127 : decode prog_7_method_10_code 127 = .ok (.aload_n 0, 1) := by decide +kernel
theorem d_Mo_reduce_128 : decode prog_7_method_10_code 128 = .ok (.iload_n 2, 1) := by decide +kernel
theorem d_Mo_reduce_129 : decode prog_7_method_10_code 129 = .ok (.invokevirtual 111, 3) := by decide +kernel
theorem d_Mo_reduce_132 : decode prog_7_method_10_code 132 = .ok (.iinc 2 1, 3) := by decide +kernel
theorem d_Mo_reduce_135 : decode prog_7_method_10_code 135 = .ok (.goto (-16), 3) := by decide +kernel
theorem d_Mo_reduce_138 : decode prog_7_method_10_code 138 = .ok (.return_, 1) := by decide +kernel
def f_R_reduce (m_rows : Int32) (m_columns : Int32) (m_prime : Int32) (m_small : Nat → Int32) (m_pivots : Nat → Int32) (pn : Nat → Int32) (pm : Nat → Int32) (pd : Nat → Nat → Int32) : Option ((Nat → Int32) × Int32 × (Nat → Int32) × (Nat → Int32) × (Nat → Int32) × (Nat → Nat → Int32)) :=
  ck_jn (fun (v1_1 : Int32) (w_2 : Nat → Int32) (w_3 : Nat → Int32) (pn_4 : Nat → Int32) (pm_5 : Nat → Int32) (pd_6 : Nat → Nat → Int32) => lo5 (fun k_119 (v2_7 : Int32) (w_8 : Nat → Int32) (pn_9 : Nat → Int32) (pm_10 : Nat → Int32) (pd_11 : Nat → Nat → Int32) => ck_if (v1_1 ≤ v2_7) (some (w_8, v1_1, w_3, pn_9, pm_10, pd_11)) (ck_b4 (f_R_settle m_columns m_prime w_8 w_3 pn_9 pm_10 pd_11 v2_7) <| fun u_13 u_14 u_15 u_16 => ck_nm (v2_7 + 1) <| fun x_18 => k_119 x_18 u_13 u_14 u_15 u_16)) ck_F 0 w_2 pn_4 pm_5 pd_6) <| fun k_112 => lo7 (fun k_4 (v2_19 : Int32) (v1_20 : Int32) (w_21 : Nat → Int32) (w_22 : Nat → Int32) (pn_23 : Nat → Int32) (pm_24 : Nat → Int32) (pd_25 : Nat → Nat → Int32) => ck_if (m_columns ≤ v2_19) (k_112 v1_20 w_21 w_22 pn_23 pm_24 pd_25) (ck_jn (fun (v3_27 : Int32) => ck_jn (fun (v1_28 : Int32) (w_29 : Nat → Int32) (w_30 : Nat → Int32) (pn_31 : Nat → Int32) (pm_32 : Nat → Int32) (pd_33 : Nat → Nat → Int32) => ck_nm (v2_19 + 1) <| fun x_34 => k_4 x_34 v1_28 w_29 w_30 pn_31 pm_32 pd_33) <| fun k_106 => ck_if (v3_27 = m_rows) (k_106 v1_20 w_21 w_22 pn_23 pm_24 pd_25) (ck_b4 (f_R_swap m_columns w_21 pn_23 pm_24 pd_25 v3_27 v1_20) <| fun u_36 u_37 u_38 u_39 => ck_jn (fun (w_41 : Nat → Int32) (pn_42 : Nat → Int32) (pm_43 : Nat → Int32) (pd_44 : Nat → Nat → Int32) => ck_in v1_20 13 <| ck_nm (v1_20 + 1) <| fun x_46 => k_106 x_46 w_41 (upd w_22 v1_20.toNatClampNeg v2_19) pn_42 pm_43 pd_44) <| fun k_96 => lo5 (fun k_57 (v4_47 : Int32) (w_48 : Nat → Int32) (pn_49 : Nat → Int32) (pm_50 : Nat → Int32) (pd_51 : Nat → Nat → Int32) => ck_if (m_rows ≤ v4_47) (k_96 w_48 pn_49 pm_50 pd_51) (ck_jn (fun (w_53 : Nat → Int32) (pn_54 : Nat → Int32) (pm_55 : Nat → Int32) (pd_56 : Nat → Nat → Int32) => ck_nm (v4_47 + 1) <| fun x_57 => k_57 x_57 w_53 pn_54 pm_55 pd_56) <| fun k_90 => ck_if (v4_47 = v1_20) (k_90 w_48 pn_49 pm_50 pd_51) (ck_b1 (f_R_isZero m_prime w_48 pn_49 v4_47 v2_19) <| fun r_59 => ck_if (r_59 = 0) (ck_b4 (f_R_take m_columns m_prime w_48 pn_49 pm_50 pd_51 v4_47 v1_20 v2_19) <| fun u_62 u_63 u_64 u_65 => k_90 u_62 u_63 u_64 u_65) (k_90 w_48 pn_49 pm_50 pd_51)))) ck_F 0 u_36 u_37 u_38 u_39)) <| fun k_37 => lo1 (fun k_14 (v3_67 : Int32) => ck_if (m_rows ≤ v3_67) (k_37 v3_67) (ck_b1 (f_R_isZero m_prime w_21 pn_23 v3_67 v2_19) <| fun r_69 => ck_if (r_69 = 0) (k_37 v3_67) (ck_nm (v3_67 + 1) <| fun x_72 => k_14 x_72))) ck_F v1_20)) ck_F 0 0 m_small m_pivots pn pm pd
set_option maxHeartbeats 4000000 in
set_option maxRecDepth 100000 in
theorem c_R_reduce (l : Launch) (dC : Nat → ClassId) (dI : Nat → Nat → Nat) (cI cJ cB cZ cT cN : ClassId) (sz : Nat) (ha NA ND : Nat → Nat) (m_rows : Int32) (m_columns : Int32) (m_prime : Int32) (m_small : Nat → Int32) (m_pivots : Nat → Int32) (m_freeRows : Nat → Int32) (m_freeColumns : Nat → Int32) (m_smallMinor : Nat → Int32) (m_fields : Nat → Int32) (m_rowCounts : Nat → Int32) (m_elements : Nat → Int32) (m_numbers : Nat → Int32) (m_known : Nat → Int32) (m_ranks : Nat → Int32) (m_rankOf : Nat → Int32) (m_signOf : Nat → Int32) (m_order : Nat → Int32) (m_sizes : Nat → Int32) (m_coefficients : Nat → Int64) (m_choices : Nat → Int64) (m_sorted : Nat → Int32) (pn : Nat → Int32) (pm : Nat → Int32) (pd : Nat → Nat → Int32) (r : (Nat → Int32) × Int32 × (Nat → Int32) × (Nat → Int32) × (Nat → Int32) × (Nat → Nat → Int32)) (h : f_R_reduce m_rows m_columns m_prime m_small m_pivots pn pm pd = some r) : Met l y_Mo_reduce w_Mo_reduce ({ frames := 6, cells := 0, slots := 0, locals := 150 } : Room) (va_Pc [.ref (ha 0)] (fun U => U.heap.size = sz ∧ va_P (dC, dI) cl_all (xw cI cJ cB cZ cN ha NA m_rows m_columns m_prime m_small m_pivots m_freeRows m_freeColumns m_smallMinor m_fields m_rowCounts m_elements m_numbers m_known m_ranks m_rankOf m_signOf m_order m_sizes m_coefficients m_choices m_sorted ++ po cI NA ND pn pm pd) U.heap ∧ va_K (dC, dI) cl_all [(cI, .int), (cJ, .long), (cB, .byte), (cZ, .boolean), (cT, .object "BasisWalk$Table"), (cN, .object "BasisWalkModel$Num")] U ∧ NW U ∧ va_D (fun _ => True) (xw cI cJ cB cZ cN ha NA m_rows m_columns m_prime m_small m_pivots m_freeRows m_freeColumns m_smallMinor m_fields m_rowCounts m_elements m_numbers m_known m_ranks m_rankOf m_signOf m_order m_sizes m_coefficients m_choices m_sorted ++ po cI NA ND pn pm pd))) (va_Qv (fun u : (Nat → Int32) × Int32 × (Nat → Int32) × (Nat → Int32) × (Nat → Int32) × (Nat → Nat → Int32) => u = r) (fun (u : (Nat → Int32) × Int32 × (Nat → Int32) × (Nat → Int32) × (Nat → Int32) × (Nat → Nat → Int32)) (t : State) => va_P (dC, dI) cl_all (xw cI cJ cB cZ cN ha NA u.2.1 m_columns m_prime u.1 u.2.2.1 m_freeRows m_freeColumns m_smallMinor m_fields m_rowCounts m_elements m_numbers m_known m_ranks m_rankOf m_signOf m_order m_sizes m_coefficients m_choices m_sorted ++ po cI NA ND u.2.2.2.1 u.2.2.2.2.1 u.2.2.2.2.2) t.heap ∧ va_K (dC, dI) cl_all [(cI, .int), (cJ, .long), (cB, .byte), (cZ, .boolean), (cT, .object "BasisWalk$Table"), (cN, .object "BasisWalkModel$Num")] t ∧ va_D (va_A (xw cI cJ cB cZ cN ha NA m_rows m_columns m_prime m_small m_pivots m_freeRows m_freeColumns m_smallMinor m_fields m_rowCounts m_elements m_numbers m_known m_ranks m_rankOf m_signOf m_order m_sizes m_coefficients m_choices m_sorted ++ po cI NA ND pn pm pd) sz) (xw cI cJ cB cZ cN ha NA u.2.1 m_columns m_prime u.1 u.2.2.1 m_freeRows m_freeColumns m_smallMinor m_fields m_rowCounts m_elements m_numbers m_known m_ranks m_rankOf m_signOf m_order m_sizes m_coefficients m_choices m_sorted ++ po cI NA ND u.2.2.2.1 u.2.2.2.2.1 u.2.2.2.2.2)) (va_A (xw cI cJ cB cZ cN ha NA m_rows m_columns m_prime m_small m_pivots m_freeRows m_freeColumns m_smallMinor m_fields m_rowCounts m_elements m_numbers m_known m_ranks m_rankOf m_signOf m_order m_sizes m_coefficients m_choices m_sorted ++ po cI NA ND pn pm pd) sz)) 0 0 (va_A (xw cI cJ cB cZ cN ha NA m_rows m_columns m_prime m_small m_pivots m_freeRows m_freeColumns m_smallMinor m_fields m_rowCounts m_elements m_numbers m_known m_ranks m_rankOf m_signOf m_order m_sizes m_coefficients m_choices m_sorted ++ po cI NA ND pn pm pd) sz) := by
  refine Met.ofW (cc := prog_7_method_10_code) (maxL := 5) (ret := (Option.none : Option Jvm.ClassFile.FieldType)) (by decide) rfl ?_
  intro p e s m args below meth c s₁ B hml hv
  obtain ⟨hAR, hsz, hP, hK, hN, hD0⟩ := hv
  have hx := B.exec
  have hb := B.bytes
  have hr := B.returns
  have hts := atoms_spec (ws := w_Mo_reduce) B.pre
  have hown : s.vm.findClass "BasisWalkModel" = some m.cls := findClass_of_methodNamed B.named
  have hlocks := B.notSynchronized
  clear B
  subst hsz
  have hD := hD0.self (sz := s.heap.size)
  generalize hAe : va_A (xw cI cJ cB cZ cN ha NA m_rows m_columns m_prime m_small m_pivots m_freeRows m_freeColumns m_smallMinor m_fields m_rowCounts m_elements m_numbers m_known m_ranks m_rankOf m_signOf m_order m_sizes m_coefficients m_choices m_sorted ++ po cI NA ND pn pm pd) s.heap.size = A at hD ⊢
  have hA : ∀ q : Nat, s.heap.size ≤ q → A q := fun q h => by rw [← hAe]; exact Or.inr h
  clear hAe hD0
  have hS : va_S A s.heap s.heap [] := va_S.rf
  have hl := lv_entry ([.ref (ha 0)]) (n := 5) (Nat.le_of_ble_eq_true rfl)
  subst hAR
  rw [lg_entry_eq]
  generalize (lg_sl ([.ref (ha 0)]) ++ List.replicate (5 - (lg_sl ([.ref (ha 0)])).length) Slot.unset).toArray = ls at hl ⊢
  have hl : lv_has ls 5 [(0, .ref (ha 0))] := hl
  change W p l e ({ frames := 6, cells := 0, slots := 0, locals := 150 } : Room) s m _ below meth c s.heap [] 0 0 _ _
  generalize hARe : ([.ref (ha 0)] : List Value).toArray = AR at hts ⊢
  clear hARe
  generalize hQ : MQ below _ AR s 0 0 A = QQ
  have fl0 := hts _ (List.mem_cons_of_mem _ tw_365)
  have iw1 := (fun w hw => List.mem_cons_of_mem _ (in_Mo w hw) : ∀ w ∈ u_ws "BasisWalkModel" T_Mo 31, w ∈ w_Mo_reduce)
  have fl2 := hts _ (List.mem_cons_of_mem _ tw_366)
  have fl3 := hts _ (List.mem_cons_of_mem _ tw_368)
  obtain ⟨H, hHe⟩ : ∃ H : Heap, H = s.heap := ⟨_, rfl⟩
  rw [← hHe] at hP ⊢
  replace hS : va_S A s.heap H [] := by rw [hHe]; exact va_S.rf
  clear hHe
  unfold f_R_reduce at h
  refine lv_iconst (v := 0) hx hb d_Mo_reduce_0 (by decide) ?_
  refine lv_istore_n (lv' := [(1, .int 0), (0, .ref (ha 0))]) hx hb d_Mo_reduce_1 rfl hl (by decide) rfl (fun ls hl => ?_)
  refine lv_iconst (v := 0) hx hb d_Mo_reduce_2 (by decide) ?_
  refine lv_istore_n (lv' := [(2, .int 0), (1, .int 0), (0, .ref (ha 0))]) hx hb d_Mo_reduce_3 rfl hl (by decide) rfl (fun ls hl => ?_)
  refine ck_jn_W h (fun k' => ∀ (v1_1 : Int32) (w_2 : Nat → Int32) (w_3 : Nat → Int32) (pn_4 : Nat → Int32) (pm_5 : Nat → Int32) (pd_6 : Nat → Nat → Int32), k' v1_1 w_2 w_3 pn_4 pm_5 pd_6 = some r → ∀ (H : Heap) (locs : List Loc), va_P (dC, dI) cl_all (xw cI cJ cB cZ cN ha NA m_rows m_columns m_prime w_2 w_3 m_freeRows m_freeColumns m_smallMinor m_fields m_rowCounts m_elements m_numbers m_known m_ranks m_rankOf m_signOf m_order m_sizes m_coefficients m_choices m_sorted ++ po cI NA ND pn_4 pm_5 pd_6) H → va_D A (xw cI cJ cB cZ cN ha NA m_rows m_columns m_prime w_2 w_3 m_freeRows m_freeColumns m_smallMinor m_fields m_rowCounts m_elements m_numbers m_known m_ranks m_rankOf m_signOf m_order m_sizes m_coefficients m_choices m_sorted ++ po cI NA ND pn_4 pm_5 pd_6) → va_S A s.heap H locs → ∀ ls : Array Slot, lv_has ls 5 [(0, .ref (ha 0)), (1, .int v1_1)] → W p l e ({ frames := 6, cells := 0, slots := 0, locals := 150 } : Room) s m AR below meth c H locs 0 0 QQ (F0 m 112 ls [])) ?_ ?_
  · intro v1_1 w_2 w_3 pn_4 pm_5 pd_6 h H locs hP hD hS ls hl
    refine lv_aload_n hx hb d_Mo_reduce_112 rfl (lv_at hl 0 rfl) ?_
    refine lv_iload_n hx hb d_Mo_reduce_113 rfl (lv_at hl 1 rfl) ?_
    refine va_put (D := (dC, dI)) (ci := 6) (v := .int v1_1) (ty := .int) (C := "BasisWalkModel") (T := T_Mo) (N := 31) hx hb hts iw1 ty_Mo tyok_Mo nm_Mo hown hK hP hD hS 0 rfl rfl 10 (by decide) fl0 (fun _ h9 => h9) rfl (by decide +kernel) rfl rfl (Nat.le_of_ble_eq_true rfl) d_Mo_reduce_114 (fun H locs hP hD hS => ?_)
    have hP : va_P (dC, dI) cl_all (xw cI cJ cB cZ cN ha NA v1_1 m_columns m_prime w_2 w_3 m_freeRows m_freeColumns m_smallMinor m_fields m_rowCounts m_elements m_numbers m_known m_ranks m_rankOf m_signOf m_order m_sizes m_coefficients m_choices m_sorted ++ po cI NA ND pn_4 pm_5 pd_6) H := hP
    have hD : va_D A (xw cI cJ cB cZ cN ha NA v1_1 m_columns m_prime w_2 w_3 m_freeRows m_freeColumns m_smallMinor m_fields m_rowCounts m_elements m_numbers m_known m_ranks m_rankOf m_signOf m_order m_sizes m_coefficients m_choices m_sorted ++ po cI NA ND pn_4 pm_5 pd_6) := hD
    refine lv_iconst (v := 0) hx hb d_Mo_reduce_117 (by decide) ?_
    refine lv_istore_n (lv' := [(2, .int 0), (0, .ref (ha 0)), (1, .int v1_1)]) hx hb d_Mo_reduce_118 rfl hl (by decide) rfl (fun ls hl => ?_)
    refine lo5_W (r := r) (fun (v2_7 : Int32) (w_8 : Nat → Int32) (pn_9 : Nat → Int32) (pm_10 : Nat → Int32) (pd_11 : Nat → Nat → Int32) => ∀ (H : Heap) (locs : List Loc), va_P (dC, dI) cl_all (xw cI cJ cB cZ cN ha NA v1_1 m_columns m_prime w_8 w_3 m_freeRows m_freeColumns m_smallMinor m_fields m_rowCounts m_elements m_numbers m_known m_ranks m_rankOf m_signOf m_order m_sizes m_coefficients m_choices m_sorted ++ po cI NA ND pn_9 pm_10 pd_11) H → va_D A (xw cI cJ cB cZ cN ha NA v1_1 m_columns m_prime w_8 w_3 m_freeRows m_freeColumns m_smallMinor m_fields m_rowCounts m_elements m_numbers m_known m_ranks m_rankOf m_signOf m_order m_sizes m_coefficients m_choices m_sorted ++ po cI NA ND pn_9 pm_10 pd_11) → va_S A s.heap H locs → ∀ ls : Array Slot, lv_has ls 5 [(0, .ref (ha 0)), (2, .int v2_7)] → W p l e ({ frames := 6, cells := 0, slots := 0, locals := 150 } : Room) s m AR below meth c H locs 0 0 QQ (F0 m 119 ls [])) ?_ _ _ _ _ _ _ h _ _ hP hD hS _ (lv_sub hl [1, 0] rfl)
    intro k_119 v2_7 w_8 pn_9 pm_10 pd_11 J_119 h H locs hP hD hS ls hl
    refine lv_iload_n hx hb d_Mo_reduce_119 rfl (lv_at hl 1 rfl) ?_
    refine lv_aload_n hx hb d_Mo_reduce_120 rfl (lv_at hl 0 rfl) ?_
    refine va_get (D := (dC, dI)) (ci := 6) (v := .int v1_1) (C := "BasisWalkModel") (T := T_Mo) (N := 31) hx hb hts iw1 hown hK hP 0 rfl rfl 10 (by decide) fl0 (fun _ h9 => h9) rfl d_Mo_reduce_121 ?_
    refine lv_icmp_ge (tgt := 138) hx hb d_Mo_reduce_124 (by decide) (fun c_12 => ?_) (fun c_12 => ?_)
    · replace h := ck_if_t h c_12
      obtain rfl := Option.some.inj h
      subst hQ
      exact W.vret hx hb hr (fun t ht hW => ⟨⟨(w_8, v1_1, w_3, pn_9, pm_10, pd_11), rfl, rfl, by rw [ht]; exact hP, va_K.moved hW.alike hK, hD⟩, hS.F ht⟩) hS.2.2 d_Mo_reduce_138
    · replace h := ck_if_f h c_12
      refine lv_aload_n hx hb d_Mo_reduce_127 rfl (lv_at hl 0 rfl) ?_
      refine lv_iload_n hx hb d_Mo_reduce_128 rfl (lv_at hl 1 rfl) ?_
      obtain ⟨u_13, u_14, u_15, u_16, hc_17, h⟩ := ck_b4_s h
      have hPc := hP
      have hDc := hD
      have hFc := pw_free hDc hS hA
      refine va_callv (va_runV (As := [.int v2_7]) (rest := []) ⟨hx, hb, hml, hown, hts⟩ (c_R_settle l dC dI cI cJ cB cZ cT cN H.size ha NA ND v1_1 m_columns m_prime w_8 w_3 m_freeRows m_freeColumns m_smallMinor m_fields m_rowCounts m_elements m_numbers m_known m_ranks m_rankOf m_signOf m_order m_sizes m_coefficients m_choices m_sorted pn_9 pm_10 pd_11 v2_7 _ hc_17) (cwV 1 hts (tb_V tw_564 tw_566 tp_29 tw_6 tw_567) rfl rfl rfl (by decide +kernel) ⟨Nat.le_of_ble_eq_true rfl, Nat.le_of_ble_eq_true rfl⟩) ⟨fun a U g mk q => by obtain ⟨q0, q1, qP, qK, qN, qD⟩ := q; exact ⟨q0, q1, qP, va_K.moved (u := U) (U := U.calling g mk a) (Vm.Alike.refl U.vm) qK, qN.same rfl, qD⟩, va_recv hK hPc (ci := 6) (q0 := 0) rfl rfl, fun U hU hW => ⟨rfl, by rw [hU], by rw [hU]; exact hPc, va_K.moved hW.alike hK, hN.warm hW, hDc.weaken (fun _ _ _ _ => trivial)⟩⟩ rfl rfl hl.1 rfl (lv_room (Nat.le_of_ble_eq_true rfl)) d_Mo_reduce_129 ⟨Nat.zero_le _, Nat.zero_le _⟩) hS (fun q _ h => hFc q h) hFc (fun u t H1 locs ht hvm hw hB hz1 hk1 hS => ?_)
      replace hw := hw.symm
      subst hw
      obtain ⟨hP1, -, hD1⟩ := hB
      rw [ht] at hP1
      have hP : va_P (dC, dI) cl_all (xw cI cJ cB cZ cN ha NA v1_1 m_columns m_prime u_13 w_3 m_freeRows m_freeColumns m_smallMinor m_fields m_rowCounts m_elements m_numbers m_known m_ranks m_rankOf m_signOf m_order m_sizes m_coefficients m_choices m_sorted ++ po cI NA ND u_14 u_15 u_16) H1 := hP1
      have hD : va_D A (xw cI cJ cB cZ cN ha NA v1_1 m_columns m_prime u_13 w_3 m_freeRows m_freeColumns m_smallMinor m_fields m_rowCounts m_elements m_numbers m_known m_ranks m_rankOf m_signOf m_order m_sizes m_coefficients m_choices m_sorted ++ po cI NA ND u_14 u_15 u_16) := hD1.weaken (fun _ _ _ h => hFc _ h)
      generalize H1 = H at hP hS ⊢
      have hP : va_P (dC, dI) cl_all (xw cI cJ cB cZ cN ha NA v1_1 m_columns m_prime u_13 w_3 m_freeRows m_freeColumns m_smallMinor m_fields m_rowCounts m_elements m_numbers m_known m_ranks m_rankOf m_signOf m_order m_sizes m_coefficients m_choices m_sorted ++ po cI NA ND u_14 u_15 u_16) H := hP
      have hD : va_D A (xw cI cJ cB cZ cN ha NA v1_1 m_columns m_prime u_13 w_3 m_freeRows m_freeColumns m_smallMinor m_fields m_rowCounts m_elements m_numbers m_known m_ranks m_rankOf m_signOf m_order m_sizes m_coefficients m_choices m_sorted ++ po cI NA ND u_14 u_15 u_16) := hD
      obtain ⟨x_18, ex_18⟩ : ∃ y : Int32, y = v2_7 + 1 := ⟨_, rfl⟩
      replace h := ck_nm_s h ex_18
      refine lv_iinc (v := x_18) (lv' := [(2, .int x_18), (0, .ref (ha 0))]) hx hb d_Mo_reduce_132 hl (k := 1) rfl (by rw [ex_18]; rfl) (by decide) rfl (fun ls hl => ?_)
      refine lv_goto (tgt := 119) hx hb d_Mo_reduce_135 (by decide) ?_
      exact J_119 _ _ _ _ _ h _ _ hP hD hS _ (lv_sub hl [1, 0] rfl)
  · intro k_112 J_112 h
    refine lo7_W (r := r) (fun (v2_19 : Int32) (v1_20 : Int32) (w_21 : Nat → Int32) (w_22 : Nat → Int32) (pn_23 : Nat → Int32) (pm_24 : Nat → Int32) (pd_25 : Nat → Nat → Int32) => ∀ (H : Heap) (locs : List Loc), va_P (dC, dI) cl_all (xw cI cJ cB cZ cN ha NA m_rows m_columns m_prime w_21 w_22 m_freeRows m_freeColumns m_smallMinor m_fields m_rowCounts m_elements m_numbers m_known m_ranks m_rankOf m_signOf m_order m_sizes m_coefficients m_choices m_sorted ++ po cI NA ND pn_23 pm_24 pd_25) H → va_D A (xw cI cJ cB cZ cN ha NA m_rows m_columns m_prime w_21 w_22 m_freeRows m_freeColumns m_smallMinor m_fields m_rowCounts m_elements m_numbers m_known m_ranks m_rankOf m_signOf m_order m_sizes m_coefficients m_choices m_sorted ++ po cI NA ND pn_23 pm_24 pd_25) → va_S A s.heap H locs → ∀ ls : Array Slot, lv_has ls 5 [(0, .ref (ha 0)), (1, .int v1_20), (2, .int v2_19)] → W p l e ({ frames := 6, cells := 0, slots := 0, locals := 150 } : Room) s m AR below meth c H locs 0 0 QQ (F0 m 4 ls [])) ?_ _ _ _ _ _ _ _ _ h _ _ hP hD hS _ (lv_sub hl [2, 1, 0] rfl)
    intro k_4 v2_19 v1_20 w_21 w_22 pn_23 pm_24 pd_25 J_4 h H locs hP hD hS ls hl
    refine lv_iload_n hx hb d_Mo_reduce_4 rfl (lv_at hl 2 rfl) ?_
    refine lv_aload_n hx hb d_Mo_reduce_5 rfl (lv_at hl 0 rfl) ?_
    refine va_get (D := (dC, dI)) (ci := 6) (v := .int m_columns) (C := "BasisWalkModel") (T := T_Mo) (N := 31) hx hb hts iw1 hown hK hP 0 rfl rfl 11 (by decide) fl2 (fun _ h9 => h9) rfl d_Mo_reduce_6 ?_
    refine lv_icmp_ge (tgt := 112) hx hb d_Mo_reduce_9 (by decide) (fun c_26 => ?_) (fun c_26 => ?_)
    · replace h := ck_if_t h c_26
      exact J_112 _ _ _ _ _ _ h _ _ hP hD hS _ (lv_sub hl [0, 1] rfl)
    · replace h := ck_if_f h c_26
      refine lv_iload_n hx hb d_Mo_reduce_12 rfl (lv_at hl 1 rfl) ?_
      refine lv_istore_n (lv' := [(3, .int v1_20), (0, .ref (ha 0)), (1, .int v1_20), (2, .int v2_19)]) hx hb d_Mo_reduce_13 rfl hl (by decide) rfl (fun ls hl => ?_)
      refine ck_jn_W h (fun k' => ∀ (v3_27 : Int32), k' v3_27 = some r → ∀ (H : Heap) (locs : List Loc), va_P (dC, dI) cl_all (xw cI cJ cB cZ cN ha NA m_rows m_columns m_prime w_21 w_22 m_freeRows m_freeColumns m_smallMinor m_fields m_rowCounts m_elements m_numbers m_known m_ranks m_rankOf m_signOf m_order m_sizes m_coefficients m_choices m_sorted ++ po cI NA ND pn_23 pm_24 pd_25) H → va_D A (xw cI cJ cB cZ cN ha NA m_rows m_columns m_prime w_21 w_22 m_freeRows m_freeColumns m_smallMinor m_fields m_rowCounts m_elements m_numbers m_known m_ranks m_rankOf m_signOf m_order m_sizes m_coefficients m_choices m_sorted ++ po cI NA ND pn_23 pm_24 pd_25) → va_S A s.heap H locs → ∀ ls : Array Slot, lv_has ls 5 [(0, .ref (ha 0)), (1, .int v1_20), (2, .int v2_19), (3, .int v3_27)] → W p l e ({ frames := 6, cells := 0, slots := 0, locals := 150 } : Room) s m AR below meth c H locs 0 0 QQ (F0 m 37 ls [])) ?_ ?_
      · intro v3_27 h H locs hP hD hS ls hl
        refine lv_iload_n hx hb d_Mo_reduce_37 rfl (lv_at hl 3 rfl) ?_
        refine lv_aload_n hx hb d_Mo_reduce_38 rfl (lv_at hl 0 rfl) ?_
        refine va_get (D := (dC, dI)) (ci := 6) (v := .int m_rows) (C := "BasisWalkModel") (T := T_Mo) (N := 31) hx hb hts iw1 hown hK hP 0 rfl rfl 10 (by decide) fl0 (fun _ h9 => h9) rfl d_Mo_reduce_39 ?_
        refine ck_jn_W h (fun k' => ∀ (v1_28 : Int32) (w_29 : Nat → Int32) (w_30 : Nat → Int32) (pn_31 : Nat → Int32) (pm_32 : Nat → Int32) (pd_33 : Nat → Nat → Int32), k' v1_28 w_29 w_30 pn_31 pm_32 pd_33 = some r → ∀ (H : Heap) (locs : List Loc), va_P (dC, dI) cl_all (xw cI cJ cB cZ cN ha NA m_rows m_columns m_prime w_29 w_30 m_freeRows m_freeColumns m_smallMinor m_fields m_rowCounts m_elements m_numbers m_known m_ranks m_rankOf m_signOf m_order m_sizes m_coefficients m_choices m_sorted ++ po cI NA ND pn_31 pm_32 pd_33) H → va_D A (xw cI cJ cB cZ cN ha NA m_rows m_columns m_prime w_29 w_30 m_freeRows m_freeColumns m_smallMinor m_fields m_rowCounts m_elements m_numbers m_known m_ranks m_rankOf m_signOf m_order m_sizes m_coefficients m_choices m_sorted ++ po cI NA ND pn_31 pm_32 pd_33) → va_S A s.heap H locs → ∀ ls : Array Slot, lv_has ls 5 [(0, .ref (ha 0)), (1, .int v1_28), (2, .int v2_19)] → W p l e ({ frames := 6, cells := 0, slots := 0, locals := 150 } : Room) s m AR below meth c H locs 0 0 QQ (F0 m 106 ls [])) ?_ ?_
        · intro v1_28 w_29 w_30 pn_31 pm_32 pd_33 h H locs hP hD hS ls hl
          obtain ⟨x_34, ex_34⟩ : ∃ y : Int32, y = v2_19 + 1 := ⟨_, rfl⟩
          replace h := ck_nm_s h ex_34
          refine lv_iinc (v := x_34) (lv' := [(2, .int x_34), (0, .ref (ha 0)), (1, .int v1_28)]) hx hb d_Mo_reduce_106 hl (k := 2) rfl (by rw [ex_34]; rfl) (by decide) rfl (fun ls hl => ?_)
          refine lv_goto (tgt := 4) hx hb d_Mo_reduce_109 (by decide) ?_
          exact J_4 _ _ _ _ _ _ _ h _ _ hP hD hS _ (lv_sub hl [1, 2, 0] rfl)
        · intro k_106 J_106 h
          refine lv_icmp_ne (tgt := 48) hx hb d_Mo_reduce_42 (by decide) (fun c_35 => ?_) (fun c_35 => ?_)
          · replace h := ck_if_f h c_35
            refine lv_aload_n hx hb d_Mo_reduce_48 rfl (lv_at hl 0 rfl) ?_
            refine lv_iload_n hx hb d_Mo_reduce_49 rfl (lv_at hl 3 rfl) ?_
            refine lv_iload_n hx hb d_Mo_reduce_50 rfl (lv_at hl 1 rfl) ?_
            obtain ⟨u_36, u_37, u_38, u_39, hc_40, h⟩ := ck_b4_s h
            have hPc := hP
            have hDc := hD
            have hFc := pw_free hDc hS hA
            refine va_callv (va_runV (As := [.int v3_27, .int v1_20]) (rest := []) ⟨hx, hb, hml, hown, hts⟩ (c_R_swap l dC dI cI cJ cB cZ cT cN H.size ha NA ND m_rows m_columns m_prime w_21 w_22 m_freeRows m_freeColumns m_smallMinor m_fields m_rowCounts m_elements m_numbers m_known m_ranks m_rankOf m_signOf m_order m_sizes m_coefficients m_choices m_sorted pn_23 pm_24 pd_25 v3_27 v1_20 _ hc_40) (cwV 2 hts (tb_V tw_506 tw_508 tp_24 tw_6 tw_509) rfl rfl rfl (by decide +kernel) ⟨Nat.le_of_ble_eq_true rfl, Nat.le_of_ble_eq_true rfl⟩) ⟨fun a U g mk q => by obtain ⟨q0, q1, qP, qK, qN, qD⟩ := q; exact ⟨q0, q1, qP, va_K.moved (u := U) (U := U.calling g mk a) (Vm.Alike.refl U.vm) qK, qN.same rfl, qD⟩, va_recv hK hPc (ci := 6) (q0 := 0) rfl rfl, fun U hU hW => ⟨rfl, by rw [hU], by rw [hU]; exact hPc, va_K.moved hW.alike hK, hN.warm hW, hDc.weaken (fun _ _ _ _ => trivial)⟩⟩ rfl rfl hl.1 rfl (lv_room (Nat.le_of_ble_eq_true rfl)) d_Mo_reduce_51 ⟨Nat.zero_le _, Nat.zero_le _⟩) hS (fun q _ h => hFc q h) hFc (fun u t H1 locs ht hvm hw hB hz1 hk1 hS => ?_)
            replace hw := hw.symm
            subst hw
            obtain ⟨hP1, -, hD1⟩ := hB
            rw [ht] at hP1
            have hP : va_P (dC, dI) cl_all (xw cI cJ cB cZ cN ha NA m_rows m_columns m_prime u_36 w_22 m_freeRows m_freeColumns m_smallMinor m_fields m_rowCounts m_elements m_numbers m_known m_ranks m_rankOf m_signOf m_order m_sizes m_coefficients m_choices m_sorted ++ po cI NA ND u_37 u_38 u_39) H1 := hP1
            have hD : va_D A (xw cI cJ cB cZ cN ha NA m_rows m_columns m_prime u_36 w_22 m_freeRows m_freeColumns m_smallMinor m_fields m_rowCounts m_elements m_numbers m_known m_ranks m_rankOf m_signOf m_order m_sizes m_coefficients m_choices m_sorted ++ po cI NA ND u_37 u_38 u_39) := hD1.weaken (fun _ _ _ h => hFc _ h)
            generalize H1 = H at hP hS ⊢
            have hP : va_P (dC, dI) cl_all (xw cI cJ cB cZ cN ha NA m_rows m_columns m_prime u_36 w_22 m_freeRows m_freeColumns m_smallMinor m_fields m_rowCounts m_elements m_numbers m_known m_ranks m_rankOf m_signOf m_order m_sizes m_coefficients m_choices m_sorted ++ po cI NA ND u_37 u_38 u_39) H := hP
            have hD : va_D A (xw cI cJ cB cZ cN ha NA m_rows m_columns m_prime u_36 w_22 m_freeRows m_freeColumns m_smallMinor m_fields m_rowCounts m_elements m_numbers m_known m_ranks m_rankOf m_signOf m_order m_sizes m_coefficients m_choices m_sorted ++ po cI NA ND u_37 u_38 u_39) := hD
            refine lv_iconst (v := 0) hx hb d_Mo_reduce_54 (by decide) ?_
            refine lv_istore (lv' := [(4, .int 0), (0, .ref (ha 0)), (1, .int v1_20), (2, .int v2_19), (3, .int v3_27)]) hx hb d_Mo_reduce_55 hl (by decide) rfl (fun ls hl => ?_)
            refine ck_jn_W h (fun k' => ∀ (w_41 : Nat → Int32) (pn_42 : Nat → Int32) (pm_43 : Nat → Int32) (pd_44 : Nat → Nat → Int32), k' w_41 pn_42 pm_43 pd_44 = some r → ∀ (H : Heap) (locs : List Loc), va_P (dC, dI) cl_all (xw cI cJ cB cZ cN ha NA m_rows m_columns m_prime w_41 w_22 m_freeRows m_freeColumns m_smallMinor m_fields m_rowCounts m_elements m_numbers m_known m_ranks m_rankOf m_signOf m_order m_sizes m_coefficients m_choices m_sorted ++ po cI NA ND pn_42 pm_43 pd_44) H → va_D A (xw cI cJ cB cZ cN ha NA m_rows m_columns m_prime w_41 w_22 m_freeRows m_freeColumns m_smallMinor m_fields m_rowCounts m_elements m_numbers m_known m_ranks m_rankOf m_signOf m_order m_sizes m_coefficients m_choices m_sorted ++ po cI NA ND pn_42 pm_43 pd_44) → va_S A s.heap H locs → ∀ ls : Array Slot, lv_has ls 5 [(0, .ref (ha 0)), (1, .int v1_20), (2, .int v2_19)] → W p l e ({ frames := 6, cells := 0, slots := 0, locals := 150 } : Room) s m AR below meth c H locs 0 0 QQ (F0 m 96 ls [])) ?_ ?_
            · intro w_41 pn_42 pm_43 pd_44 h H locs hP hD hS ls hl
              refine lv_aload_n hx hb d_Mo_reduce_96 rfl (lv_at hl 0 rfl) ?_
              refine va_get (D := (dC, dI)) (ci := 6) (v := .ref (ha 3)) (C := "BasisWalkModel") (T := T_Mo) (N := 31) hx hb hts iw1 hown hK hP 0 rfl rfl 13 (by decide) fl3 (fun _ h9 => h9) rfl d_Mo_reduce_97 ?_
              refine lv_iload_n hx hb d_Mo_reduce_100 rfl (lv_at hl 1 rfl) ?_
              refine lv_iload_n hx hb d_Mo_reduce_101 rfl (lv_at hl 2 rfl) ?_
              obtain ⟨g_45, h⟩ := ck_in_s h
              refine va_iast hx hb hK hP hD hS 3 0 rfl rfl g_45 d_Mo_reduce_102 (fun H locs hP hD hS => ?_)
              have hP : va_P (dC, dI) cl_all (xw cI cJ cB cZ cN ha NA m_rows m_columns m_prime w_41 (upd w_22 v1_20.toNatClampNeg v2_19) m_freeRows m_freeColumns m_smallMinor m_fields m_rowCounts m_elements m_numbers m_known m_ranks m_rankOf m_signOf m_order m_sizes m_coefficients m_choices m_sorted ++ po cI NA ND pn_42 pm_43 pd_44) H := hP
              have hD : va_D A (xw cI cJ cB cZ cN ha NA m_rows m_columns m_prime w_41 (upd w_22 v1_20.toNatClampNeg v2_19) m_freeRows m_freeColumns m_smallMinor m_fields m_rowCounts m_elements m_numbers m_known m_ranks m_rankOf m_signOf m_order m_sizes m_coefficients m_choices m_sorted ++ po cI NA ND pn_42 pm_43 pd_44) := hD
              obtain ⟨x_46, ex_46⟩ : ∃ y : Int32, y = v1_20 + 1 := ⟨_, rfl⟩
              replace h := ck_nm_s h ex_46
              refine lv_iinc (v := x_46) (lv' := [(1, .int x_46), (0, .ref (ha 0)), (2, .int v2_19)]) hx hb d_Mo_reduce_103 hl (k := 1) rfl (by rw [ex_46]; rfl) (by decide) rfl (fun ls hl => ?_)
              exact J_106 _ _ _ _ _ _ h _ _ hP hD hS _ (lv_sub hl [1, 0, 2] rfl)
            · intro k_96 J_96 h
              refine lo5_W (r := r) (fun (v4_47 : Int32) (w_48 : Nat → Int32) (pn_49 : Nat → Int32) (pm_50 : Nat → Int32) (pd_51 : Nat → Nat → Int32) => ∀ (H : Heap) (locs : List Loc), va_P (dC, dI) cl_all (xw cI cJ cB cZ cN ha NA m_rows m_columns m_prime w_48 w_22 m_freeRows m_freeColumns m_smallMinor m_fields m_rowCounts m_elements m_numbers m_known m_ranks m_rankOf m_signOf m_order m_sizes m_coefficients m_choices m_sorted ++ po cI NA ND pn_49 pm_50 pd_51) H → va_D A (xw cI cJ cB cZ cN ha NA m_rows m_columns m_prime w_48 w_22 m_freeRows m_freeColumns m_smallMinor m_fields m_rowCounts m_elements m_numbers m_known m_ranks m_rankOf m_signOf m_order m_sizes m_coefficients m_choices m_sorted ++ po cI NA ND pn_49 pm_50 pd_51) → va_S A s.heap H locs → ∀ ls : Array Slot, lv_has ls 5 [(0, .ref (ha 0)), (1, .int v1_20), (2, .int v2_19), (4, .int v4_47)] → W p l e ({ frames := 6, cells := 0, slots := 0, locals := 150 } : Room) s m AR below meth c H locs 0 0 QQ (F0 m 57 ls [])) ?_ _ _ _ _ _ _ h _ _ hP hD hS _ (lv_sub hl [1, 2, 3, 0] rfl)
              intro k_57 v4_47 w_48 pn_49 pm_50 pd_51 J_57 h H locs hP hD hS ls hl
              refine lv_iload hx hb d_Mo_reduce_57 (lv_at hl 3 rfl) ?_
              refine lv_aload_n hx hb d_Mo_reduce_59 rfl (lv_at hl 0 rfl) ?_
              refine va_get (D := (dC, dI)) (ci := 6) (v := .int m_rows) (C := "BasisWalkModel") (T := T_Mo) (N := 31) hx hb hts iw1 hown hK hP 0 rfl rfl 10 (by decide) fl0 (fun _ h9 => h9) rfl d_Mo_reduce_60 ?_
              refine lv_icmp_ge (tgt := 96) hx hb d_Mo_reduce_63 (by decide) (fun c_52 => ?_) (fun c_52 => ?_)
              · replace h := ck_if_t h c_52
                exact J_96 _ _ _ _ h _ _ hP hD hS _ (lv_sub hl [0, 1, 2] rfl)
              · replace h := ck_if_f h c_52
                refine lv_iload hx hb d_Mo_reduce_66 (lv_at hl 3 rfl) ?_
                refine lv_iload_n hx hb d_Mo_reduce_68 rfl (lv_at hl 1 rfl) ?_
                refine ck_jn_W h (fun k' => ∀ (w_53 : Nat → Int32) (pn_54 : Nat → Int32) (pm_55 : Nat → Int32) (pd_56 : Nat → Nat → Int32), k' w_53 pn_54 pm_55 pd_56 = some r → ∀ (H : Heap) (locs : List Loc), va_P (dC, dI) cl_all (xw cI cJ cB cZ cN ha NA m_rows m_columns m_prime w_53 w_22 m_freeRows m_freeColumns m_smallMinor m_fields m_rowCounts m_elements m_numbers m_known m_ranks m_rankOf m_signOf m_order m_sizes m_coefficients m_choices m_sorted ++ po cI NA ND pn_54 pm_55 pd_56) H → va_D A (xw cI cJ cB cZ cN ha NA m_rows m_columns m_prime w_53 w_22 m_freeRows m_freeColumns m_smallMinor m_fields m_rowCounts m_elements m_numbers m_known m_ranks m_rankOf m_signOf m_order m_sizes m_coefficients m_choices m_sorted ++ po cI NA ND pn_54 pm_55 pd_56) → va_S A s.heap H locs → ∀ ls : Array Slot, lv_has ls 5 [(0, .ref (ha 0)), (1, .int v1_20), (2, .int v2_19), (4, .int v4_47)] → W p l e ({ frames := 6, cells := 0, slots := 0, locals := 150 } : Room) s m AR below meth c H locs 0 0 QQ (F0 m 90 ls [])) ?_ ?_
                · intro w_53 pn_54 pm_55 pd_56 h H locs hP hD hS ls hl
                  obtain ⟨x_57, ex_57⟩ : ∃ y : Int32, y = v4_47 + 1 := ⟨_, rfl⟩
                  replace h := ck_nm_s h ex_57
                  refine lv_iinc (v := x_57) (lv' := [(4, .int x_57), (0, .ref (ha 0)), (1, .int v1_20), (2, .int v2_19)]) hx hb d_Mo_reduce_90 hl (k := 3) rfl (by rw [ex_57]; rfl) (by decide) rfl (fun ls hl => ?_)
                  refine lv_goto (tgt := 57) hx hb d_Mo_reduce_93 (by decide) ?_
                  exact J_57 _ _ _ _ _ h _ _ hP hD hS _ (lv_sub hl [1, 2, 3, 0] rfl)
                · intro k_90 J_90 h
                  refine lv_icmp_eq (tgt := 90) hx hb d_Mo_reduce_69 (by decide) (fun c_58 => ?_) (fun c_58 => ?_)
                  · replace h := ck_if_t h c_58
                    exact J_90 _ _ _ _ h _ _ hP hD hS _ (lv_sub hl [0, 1, 2, 3] rfl)
                  · replace h := ck_if_f h c_58
                    refine lv_aload_n hx hb d_Mo_reduce_72 rfl (lv_at hl 0 rfl) ?_
                    refine lv_iload hx hb d_Mo_reduce_73 (lv_at hl 3 rfl) ?_
                    refine lv_iload_n hx hb d_Mo_reduce_75 rfl (lv_at hl 2 rfl) ?_
                    obtain ⟨r_59, hc_60, h⟩ := ck_b1_s h
                    have hPc := hP
                    have hDc := hD
                    have hFc := pw_free hDc hS hA
                    refine va_calli (va_runV (As := [.int v4_47, .int v2_19]) (rest := []) ⟨hx, hb, hml, hown, hts⟩ (c_R_isZero l dC dI cI cJ cB cZ cT cN H.size ha NA ND m_rows m_columns m_prime w_48 w_22 m_freeRows m_freeColumns m_smallMinor m_fields m_rowCounts m_elements m_numbers m_known m_ranks m_rankOf m_signOf m_order m_sizes m_coefficients m_choices m_sorted pn_49 pm_50 pd_51 v4_47 v2_19 _ hc_60) (cwV 2 hts (tb_V tw_502 tw_504 tp_23 tw_6 tw_505) rfl rfl rfl (by decide +kernel) ⟨Nat.le_of_ble_eq_true rfl, Nat.le_of_ble_eq_true rfl⟩) ⟨fun a U g mk q => by obtain ⟨q0, q1, qP, qK, qN, qD⟩ := q; exact ⟨q0, q1, qP, va_K.moved (u := U) (U := U.calling g mk a) (Vm.Alike.refl U.vm) qK, qN.same rfl, qD⟩, va_recv hK hPc (ci := 6) (q0 := 0) rfl rfl, fun U hU hW => ⟨rfl, by rw [hU], by rw [hU]; exact hPc, va_K.moved hW.alike hK, hN.warm hW, hDc.weaken (fun _ _ _ _ => trivial)⟩⟩ rfl rfl hl.1 rfl (lv_room (Nat.le_of_ble_eq_true rfl)) d_Mo_reduce_76 ⟨Nat.zero_le _, Nat.zero_le _⟩) hS (fun q _ h => hFc q h) hFc (fun rr u t H1 locs ht hvm hw hB hz1 hk1 hS => ?_)
                    replace hw := hw.symm
                    subst hw
                    obtain ⟨hP1, -, hD1⟩ := hB
                    rw [ht] at hP1
                    have hP : va_P (dC, dI) cl_all (xw cI cJ cB cZ cN ha NA m_rows m_columns m_prime w_48 w_22 m_freeRows m_freeColumns m_smallMinor m_fields m_rowCounts m_elements m_numbers m_known m_ranks m_rankOf m_signOf m_order m_sizes m_coefficients m_choices m_sorted ++ po cI NA ND pn_49 pm_50 pd_51) H1 := hP1
                    have hD : va_D A (xw cI cJ cB cZ cN ha NA m_rows m_columns m_prime w_48 w_22 m_freeRows m_freeColumns m_smallMinor m_fields m_rowCounts m_elements m_numbers m_known m_ranks m_rankOf m_signOf m_order m_sizes m_coefficients m_choices m_sorted ++ po cI NA ND pn_49 pm_50 pd_51) := hD1.weaken (fun _ _ _ h => hFc _ h)
                    generalize H1 = H at hP hS ⊢
                    have hP : va_P (dC, dI) cl_all (xw cI cJ cB cZ cN ha NA m_rows m_columns m_prime w_48 w_22 m_freeRows m_freeColumns m_smallMinor m_fields m_rowCounts m_elements m_numbers m_known m_ranks m_rankOf m_signOf m_order m_sizes m_coefficients m_choices m_sorted ++ po cI NA ND pn_49 pm_50 pd_51) H := hP
                    have hD : va_D A (xw cI cJ cB cZ cN ha NA m_rows m_columns m_prime w_48 w_22 m_freeRows m_freeColumns m_smallMinor m_fields m_rowCounts m_elements m_numbers m_known m_ranks m_rankOf m_signOf m_order m_sizes m_coefficients m_choices m_sorted ++ po cI NA ND pn_49 pm_50 pd_51) := hD
                    refine lv_if_ne (tgt := 90) hx hb d_Mo_reduce_79 (by decide) (fun c_61 => ?_) (fun c_61 => ?_)
                    · replace h := ck_if_f h c_61
                      exact J_90 _ _ _ _ h _ _ hP hD hS _ (lv_sub hl [0, 1, 2, 3] rfl)
                    · replace h := ck_if_t h c_61
                      refine lv_aload_n hx hb d_Mo_reduce_82 rfl (lv_at hl 0 rfl) ?_
                      refine lv_iload hx hb d_Mo_reduce_83 (lv_at hl 3 rfl) ?_
                      refine lv_iload_n hx hb d_Mo_reduce_85 rfl (lv_at hl 1 rfl) ?_
                      refine lv_iload_n hx hb d_Mo_reduce_86 rfl (lv_at hl 2 rfl) ?_
                      obtain ⟨u_62, u_63, u_64, u_65, hc_66, h⟩ := ck_b4_s h
                      have hPc := hP
                      have hDc := hD
                      have hFc := pw_free hDc hS hA
                      refine va_callv (va_runV (As := [.int v4_47, .int v1_20, .int v2_19]) (rest := []) ⟨hx, hb, hml, hown, hts⟩ (c_R_take l dC dI cI cJ cB cZ cT cN H.size ha NA ND m_rows m_columns m_prime w_48 w_22 m_freeRows m_freeColumns m_smallMinor m_fields m_rowCounts m_elements m_numbers m_known m_ranks m_rankOf m_signOf m_order m_sizes m_coefficients m_choices m_sorted pn_49 pm_50 pd_51 v4_47 v1_20 v2_19 _ hc_66) (cwV 3 hts (tb_V tw_514 tw_516 tp_25 tw_6 tw_517) rfl rfl rfl (by decide +kernel) ⟨Nat.le_of_ble_eq_true rfl, Nat.le_of_ble_eq_true rfl⟩) ⟨fun a U g mk q => by obtain ⟨q0, q1, qP, qK, qN, qD⟩ := q; exact ⟨q0, q1, qP, va_K.moved (u := U) (U := U.calling g mk a) (Vm.Alike.refl U.vm) qK, qN.same rfl, qD⟩, va_recv hK hPc (ci := 6) (q0 := 0) rfl rfl, fun U hU hW => ⟨rfl, by rw [hU], by rw [hU]; exact hPc, va_K.moved hW.alike hK, hN.warm hW, hDc.weaken (fun _ _ _ _ => trivial)⟩⟩ rfl rfl hl.1 rfl (lv_room (Nat.le_of_ble_eq_true rfl)) d_Mo_reduce_87 ⟨Nat.zero_le _, Nat.zero_le _⟩) hS (fun q _ h => hFc q h) hFc (fun u t H1 locs ht hvm hw hB hz1 hk1 hS => ?_)
                      replace hw := hw.symm
                      subst hw
                      obtain ⟨hP1, -, hD1⟩ := hB
                      rw [ht] at hP1
                      have hP : va_P (dC, dI) cl_all (xw cI cJ cB cZ cN ha NA m_rows m_columns m_prime u_62 w_22 m_freeRows m_freeColumns m_smallMinor m_fields m_rowCounts m_elements m_numbers m_known m_ranks m_rankOf m_signOf m_order m_sizes m_coefficients m_choices m_sorted ++ po cI NA ND u_63 u_64 u_65) H1 := hP1
                      have hD : va_D A (xw cI cJ cB cZ cN ha NA m_rows m_columns m_prime u_62 w_22 m_freeRows m_freeColumns m_smallMinor m_fields m_rowCounts m_elements m_numbers m_known m_ranks m_rankOf m_signOf m_order m_sizes m_coefficients m_choices m_sorted ++ po cI NA ND u_63 u_64 u_65) := hD1.weaken (fun _ _ _ h => hFc _ h)
                      generalize H1 = H at hP hS ⊢
                      have hP : va_P (dC, dI) cl_all (xw cI cJ cB cZ cN ha NA m_rows m_columns m_prime u_62 w_22 m_freeRows m_freeColumns m_smallMinor m_fields m_rowCounts m_elements m_numbers m_known m_ranks m_rankOf m_signOf m_order m_sizes m_coefficients m_choices m_sorted ++ po cI NA ND u_63 u_64 u_65) H := hP
                      have hD : va_D A (xw cI cJ cB cZ cN ha NA m_rows m_columns m_prime u_62 w_22 m_freeRows m_freeColumns m_smallMinor m_fields m_rowCounts m_elements m_numbers m_known m_ranks m_rankOf m_signOf m_order m_sizes m_coefficients m_choices m_sorted ++ po cI NA ND u_63 u_64 u_65) := hD
                      exact J_90 _ _ _ _ h _ _ hP hD hS _ (lv_sub hl [0, 1, 2, 3] rfl)
          · replace h := ck_if_t h c_35
            refine lv_goto (tgt := 106) hx hb d_Mo_reduce_45 (by decide) ?_
            exact J_106 _ _ _ _ _ _ h _ _ hP hD hS _ (lv_sub hl [0, 1, 2] rfl)
      · intro k_37 J_37 h
        refine lo1_W (r := r) (fun (v3_67 : Int32) => ∀ (H : Heap) (locs : List Loc), va_P (dC, dI) cl_all (xw cI cJ cB cZ cN ha NA m_rows m_columns m_prime w_21 w_22 m_freeRows m_freeColumns m_smallMinor m_fields m_rowCounts m_elements m_numbers m_known m_ranks m_rankOf m_signOf m_order m_sizes m_coefficients m_choices m_sorted ++ po cI NA ND pn_23 pm_24 pd_25) H → va_D A (xw cI cJ cB cZ cN ha NA m_rows m_columns m_prime w_21 w_22 m_freeRows m_freeColumns m_smallMinor m_fields m_rowCounts m_elements m_numbers m_known m_ranks m_rankOf m_signOf m_order m_sizes m_coefficients m_choices m_sorted ++ po cI NA ND pn_23 pm_24 pd_25) → va_S A s.heap H locs → ∀ ls : Array Slot, lv_has ls 5 [(0, .ref (ha 0)), (1, .int v1_20), (2, .int v2_19), (3, .int v3_67)] → W p l e ({ frames := 6, cells := 0, slots := 0, locals := 150 } : Room) s m AR below meth c H locs 0 0 QQ (F0 m 14 ls [])) ?_ _ _ h _ _ hP hD hS _ (lv_sub hl [1, 2, 3, 0] rfl)
        intro k_14 v3_67 J_14 h H locs hP hD hS ls hl
        refine lv_iload_n hx hb d_Mo_reduce_14 rfl (lv_at hl 3 rfl) ?_
        refine lv_aload_n hx hb d_Mo_reduce_15 rfl (lv_at hl 0 rfl) ?_
        refine va_get (D := (dC, dI)) (ci := 6) (v := .int m_rows) (C := "BasisWalkModel") (T := T_Mo) (N := 31) hx hb hts iw1 hown hK hP 0 rfl rfl 10 (by decide) fl0 (fun _ h9 => h9) rfl d_Mo_reduce_16 ?_
        refine lv_icmp_ge (tgt := 37) hx hb d_Mo_reduce_19 (by decide) (fun c_68 => ?_) (fun c_68 => ?_)
        · replace h := ck_if_t h c_68
          exact J_37 _ h _ _ hP hD hS _ (lv_sub hl [0, 1, 2, 3] rfl)
        · replace h := ck_if_f h c_68
          refine lv_aload_n hx hb d_Mo_reduce_22 rfl (lv_at hl 0 rfl) ?_
          refine lv_iload_n hx hb d_Mo_reduce_23 rfl (lv_at hl 3 rfl) ?_
          refine lv_iload_n hx hb d_Mo_reduce_24 rfl (lv_at hl 2 rfl) ?_
          obtain ⟨r_69, hc_70, h⟩ := ck_b1_s h
          have hPc := hP
          have hDc := hD
          have hFc := pw_free hDc hS hA
          refine va_calli (va_runV (As := [.int v3_67, .int v2_19]) (rest := []) ⟨hx, hb, hml, hown, hts⟩ (c_R_isZero l dC dI cI cJ cB cZ cT cN H.size ha NA ND m_rows m_columns m_prime w_21 w_22 m_freeRows m_freeColumns m_smallMinor m_fields m_rowCounts m_elements m_numbers m_known m_ranks m_rankOf m_signOf m_order m_sizes m_coefficients m_choices m_sorted pn_23 pm_24 pd_25 v3_67 v2_19 _ hc_70) (cwV 2 hts (tb_V tw_502 tw_504 tp_23 tw_6 tw_505) rfl rfl rfl (by decide +kernel) ⟨Nat.le_of_ble_eq_true rfl, Nat.le_of_ble_eq_true rfl⟩) ⟨fun a U g mk q => by obtain ⟨q0, q1, qP, qK, qN, qD⟩ := q; exact ⟨q0, q1, qP, va_K.moved (u := U) (U := U.calling g mk a) (Vm.Alike.refl U.vm) qK, qN.same rfl, qD⟩, va_recv hK hPc (ci := 6) (q0 := 0) rfl rfl, fun U hU hW => ⟨rfl, by rw [hU], by rw [hU]; exact hPc, va_K.moved hW.alike hK, hN.warm hW, hDc.weaken (fun _ _ _ _ => trivial)⟩⟩ rfl rfl hl.1 rfl (lv_room (Nat.le_of_ble_eq_true rfl)) d_Mo_reduce_25 ⟨Nat.zero_le _, Nat.zero_le _⟩) hS (fun q _ h => hFc q h) hFc (fun rr u t H1 locs ht hvm hw hB hz1 hk1 hS => ?_)
          replace hw := hw.symm
          subst hw
          obtain ⟨hP1, -, hD1⟩ := hB
          rw [ht] at hP1
          have hP : va_P (dC, dI) cl_all (xw cI cJ cB cZ cN ha NA m_rows m_columns m_prime w_21 w_22 m_freeRows m_freeColumns m_smallMinor m_fields m_rowCounts m_elements m_numbers m_known m_ranks m_rankOf m_signOf m_order m_sizes m_coefficients m_choices m_sorted ++ po cI NA ND pn_23 pm_24 pd_25) H1 := hP1
          have hD : va_D A (xw cI cJ cB cZ cN ha NA m_rows m_columns m_prime w_21 w_22 m_freeRows m_freeColumns m_smallMinor m_fields m_rowCounts m_elements m_numbers m_known m_ranks m_rankOf m_signOf m_order m_sizes m_coefficients m_choices m_sorted ++ po cI NA ND pn_23 pm_24 pd_25) := hD1.weaken (fun _ _ _ h => hFc _ h)
          generalize H1 = H at hP hS ⊢
          have hP : va_P (dC, dI) cl_all (xw cI cJ cB cZ cN ha NA m_rows m_columns m_prime w_21 w_22 m_freeRows m_freeColumns m_smallMinor m_fields m_rowCounts m_elements m_numbers m_known m_ranks m_rankOf m_signOf m_order m_sizes m_coefficients m_choices m_sorted ++ po cI NA ND pn_23 pm_24 pd_25) H := hP
          have hD : va_D A (xw cI cJ cB cZ cN ha NA m_rows m_columns m_prime w_21 w_22 m_freeRows m_freeColumns m_smallMinor m_fields m_rowCounts m_elements m_numbers m_known m_ranks m_rankOf m_signOf m_order m_sizes m_coefficients m_choices m_sorted ++ po cI NA ND pn_23 pm_24 pd_25) := hD
          refine lv_if_eq (tgt := 37) hx hb d_Mo_reduce_28 (by decide) (fun c_71 => ?_) (fun c_71 => ?_)
          · replace h := ck_if_t h c_71
            exact J_37 _ h _ _ hP hD hS _ (lv_sub hl [0, 1, 2, 3] rfl)
          · replace h := ck_if_f h c_71
            obtain ⟨x_72, ex_72⟩ : ∃ y : Int32, y = v3_67 + 1 := ⟨_, rfl⟩
            replace h := ck_nm_s h ex_72
            refine lv_iinc (v := x_72) (lv' := [(3, .int x_72), (0, .ref (ha 0)), (1, .int v1_20), (2, .int v2_19)]) hx hb d_Mo_reduce_31 hl (k := 3) rfl (by rw [ex_72]; rfl) (by decide) rfl (fun ls hl => ?_)
            refine lv_goto (tgt := 14) hx hb d_Mo_reduce_34 (by decide) ?_
            exact J_14 _ h _ _ hP hD hS _ (lv_sub hl [1, 2, 3, 0] rfl)
theorem d_Mo_determinant_0 : decode prog_7_method_16_code 0 = .ok (.iconst 0, 1) := by decide +kernel
theorem d_Mo_determinant_1 : decode prog_7_method_16_code 1 = .ok (.istore_n 2, 1) := by decide +kernel
theorem d_Mo_determinant_2 : decode prog_7_method_16_code 2 = .ok (.iload_n 2, 1) := by decide +kernel
theorem d_Mo_determinant_3 : decode prog_7_method_16_code 3 = .ok (.iload_n 1, 1) := by decide +kernel
theorem d_Mo_determinant_4 : decode prog_7_method_16_code 4 = .ok (.if_icmp .ge 52, 3) := by decide +kernel
theorem d_Mo_determinant_7 : decode prog_7_method_16_code 7 = .ok (.iconst 0, 1) := by decide +kernel
theorem d_Mo_determinant_8 : decode prog_7_method_16_code 8 = .ok (.istore_n 3, 1) := by decide +kernel
theorem d_Mo_determinant_9 : decode prog_7_method_16_code 9 = .ok (.iload_n 3, 1) := by decide +kernel
theorem d_Mo_determinant_10 : decode prog_7_method_16_code 10 = .ok (.iload_n 1, 1) := by decide +kernel
theorem d_Mo_determinant_11 : decode prog_7_method_16_code 11 = .ok (.if_icmp .ge 39, 3) := by decide +kernel
theorem d_Mo_determinant_14 : decode prog_7_method_16_code 14 = .ok (.aload_n 0, 1) := by decide +kernel
theorem d_Mo_determinant_15 : decode prog_7_method_16_code 15 = .ok (.getfield 140, 3) := by decide +kernel
theorem d_Mo_determinant_18 : decode prog_7_method_16_code 18 = .ok (.bipush 6, 2) := by decide +kernel
theorem d_Mo_determinant_20 : decode prog_7_method_16_code 20 = .ok (.iload_n 2, 1) := by decide +kernel
theorem d_Mo_determinant_21 : decode prog_7_method_16_code 21 = .ok (.imul, 1) := by decide +kernel
theorem d_Mo_determinant_22 : decode prog_7_method_16_code 22 = .ok (.iload_n 3, 1) := by decide +kernel
theorem d_Mo_determinant_23 : decode prog_7_method_16_code 23 = .ok (.iadd, 1) := by decide +kernel
theorem d_Mo_determinant_24 : decode prog_7_method_16_code 24 = .ok (.aaload, 1) := by decide +kernel
theorem d_Mo_determinant_25 : decode prog_7_method_16_code 25 = .ok (.aload_n 0, 1) := by decide +kernel
theorem d_Mo_determinant_26 : decode prog_7_method_16_code 26 = .ok (.aload_n 0, 1) := by decide +kernel
theorem d_Mo_determinant_27 : decode prog_7_method_16_code 27 = .ok (.getfield 120, 3) := by decide +kernel
theorem d_Mo_determinant_30 : decode prog_7_method_16_code 30 = .ok (.iload_n 2, 1) := by decide +kernel
theorem d_Mo_determinant_31 : decode prog_7_method_16_code 31 = .ok (.iaload, 1) := by decide +kernel
theorem d_Mo_determinant_32 : decode prog_7_method_16_code 32 = .ok (.aload_n 0, 1) := by decide +kernel
theorem d_Mo_determinant_33 : decode prog_7_method_16_code 33 = .ok (.getfield 117, 3) := by decide +kernel
theorem d_Mo_determinant_36 : decode prog_7_method_16_code 36 = .ok (.iload_n 3, 1) := by decide +kernel
theorem d_Mo_determinant_37 : decode prog_7_method_16_code 37 = .ok (.iaload, 1) := by decide +kernel
theorem d_Mo_determinant_38 : decode prog_7_method_16_code 38 = .ok (.invokevirtual 47, 3) := by decide +kernel
theorem d_Mo_determinant_41 : decode prog_7_method_16_code 41 = .ok (.invokevirtual 7, 3) := by decide +kernel
theorem d_Mo_determinant_44 : decode prog_7_method_16_code 44 = .ok (.iinc 3 1, 3) := by decide +kernel
theorem d_Mo_determinant_47 : decode prog_7_method_16_code 47 = .ok (.goto (-38), 3) := by decide +kernel
theorem d_Mo_determinant_50 : decode prog_7_method_16_code 50 = .ok (.iinc 2 1, 3) := by decide +kernel
theorem d_Mo_determinant_53 : decode prog_7_method_16_code 53 = .ok (.goto (-51), 3) := by decide +kernel
theorem d_Mo_determinant_56 : decode prog_7_method_16_code 56 = .ok (.iconst 1, 1) := by decide +kernel
theorem d_Mo_determinant_57 : decode prog_7_method_16_code 57 = .ok (.istore_n 2, 1) := by decide +kernel
theorem d_Mo_determinant_58 : decode prog_7_method_16_code 58 = .ok (.iconst 0, 1) := by decide +kernel
theorem d_Mo_determinant_59 : decode prog_7_method_16_code 59 = .ok (.istore_n 3, 1) := by decide +kernel
theorem d_Mo_determinant_60 : decode prog_7_method_16_code 60 = .ok (.iload_n 3, 1) := by decide +kernel
theorem d_Mo_determinant_61 : decode prog_7_method_16_code 61 = .ok (.iload_n 1, 1) := by decide +kernel
theorem d_Mo_determinant_62 : decode prog_7_method_16_code 62 = .ok (.if_icmp .ge 339, 3) := by decide +kernel
theorem d_Mo_determinant_65 : decode prog_7_method_16_code 65 = .ok (.iload_n 3, 1) := by decide +kernel
theorem d_Mo_determinant_66 : decode prog_7_method_16_code 66 = .ok (.istore 4, 2) := by decide +kernel
theorem d_Mo_determinant_68 : decode prog_7_method_16_code 68 = .ok (.iload 4, 2) := by decide +kernel
theorem d_Mo_determinant_70 : decode prog_7_method_16_code 70 = .ok (.iload_n 1, 1) := by decide +kernel
theorem d_Mo_determinant_71 : decode prog_7_method_16_code 71 = .ok (.if_icmp .ge 27, 3) := by decide +kernel
theorem d_Mo_determinant_74 : decode prog_7_method_16_code 74 = .ok (.aload_n 0, 1) := by decide +kernel
theorem d_Mo_determinant_75 : decode prog_7_method_16_code 75 = .ok (.getfield 140, 3) := by decide +kernel
theorem d_Mo_determinant_78 : decode prog_7_method_16_code 78 = .ok (.bipush 6, 2) := by decide +kernel
theorem d_Mo_determinant_80 : decode prog_7_method_16_code 80 = .ok (.iload 4, 2) := by decide +kernel
theorem d_Mo_determinant_82 : decode prog_7_method_16_code 82 = .ok (.imul, 1) := by decide +kernel
theorem d_Mo_determinant_83 : decode prog_7_method_16_code 83 = .ok (.iload_n 3, 1) := by decide +kernel
theorem d_Mo_determinant_84 : decode prog_7_method_16_code 84 = .ok (.iadd, 1) := by decide +kernel
theorem d_Mo_determinant_85 : decode prog_7_method_16_code 85 = .ok (.aaload, 1) := by decide +kernel
theorem d_Mo_determinant_86 : decode prog_7_method_16_code 86 = .ok (.getfield 20, 3) := by decide +kernel
theorem d_Mo_determinant_89 : decode prog_7_method_16_code 89 = .ok (.ifCond .ne 9, 3) := by decide +kernel
theorem d_Mo_determinant_92 : decode prog_7_method_16_code 92 = .ok (.iinc 4 1, 3) := by decide +kernel
theorem d_Mo_determinant_95 : decode prog_7_method_16_code 95 = .ok (.goto (-27), 3) := by decide +kernel
theorem d_Mo_determinant_98 : decode prog_7_method_16_code 98 = .ok (.iload 4, 2) := by decide +kernel
theorem d_Mo_determinant_100 : decode prog_7_method_16_code 100 = .ok (.iload_n 1, 1) := by decide +kernel
theorem d_Mo_determinant_101 : decode prog_7_method_16_code 101 = .ok (.if_icmp .ne 5, 3) := by decide +kernel
theorem d_Mo_determinant_104 : decode prog_7_method_16_code 104 = .ok (.iconst 0, 1) := by decide +kernel
theorem d_Mo_determinant_105 : decode prog_7_method_16_code 105 = .ok (.ireturn, 1) := by decide +kernel
theorem d_Mo_determinant_106 : decode prog_7_method_16_code 106 = .ok (.iconst 0, 1) := by decide +kernel
theorem d_Mo_determinant_107 : decode prog_7_method_16_code 107 = .ok (.istore 5, 2) := by decide +kernel
theorem d_Mo_determinant_109 : decode prog_7_method_16_code 109 = .ok (.iload 5, 2) := by decide +kernel
theorem d_Mo_determinant_111 : decode prog_7_method_16_code 111 = .ok (.iload_n 1, 1) := by decide +kernel
theorem d_Mo_determinant_112 : decode prog_7_method_16_code 112 = .ok (.if_icmp .ge 82, 3) := by decide +kernel
theorem d_Mo_determinant_115 : decode prog_7_method_16_code 115 = .ok (.iload 4, 2) := by decide +kernel
theorem d_Mo_determinant_117 : decode prog_7_method_16_code 117 = .ok (.iload_n 3, 1) := by decide +kernel
theorem d_Mo_determinant_118 : decode prog_7_method_16_code 118 = .ok (.if_icmp .eq 76, 3) := by decide +kernel
theorem d_Mo_determinant_121 : decode prog_7_method_16_code 121 = .ok (.aload_n 0, 1) := by decide +kernel
theorem d_Mo_determinant_122 : decode prog_7_method_16_code 122 = .ok (.getfield 58, 3) := by decide +kernel
theorem d_Mo_determinant_125 : decode prog_7_method_16_code 125 = .ok (.aload_n 0, 1) := by decide +kernel
theorem d_Mo_determinant_126 : decode prog_7_method_16_code 126 = .ok (.getfield 140, 3) := by decide +kernel
theorem d_Mo_determinant_129 : decode prog_7_method_16_code 129 = .ok (.bipush 6, 2) := by decide +kernel
theorem d_Mo_determinant_131 : decode prog_7_method_16_code 131 = .ok (.iload 4, 2) := by decide +kernel
theorem d_Mo_determinant_133 : decode prog_7_method_16_code 133 = .ok (.imul, 1) := by decide +kernel
theorem d_Mo_determinant_134 : decode prog_7_method_16_code 134 = .ok (.iload 5, 2) := by decide +kernel
theorem d_Mo_determinant_136 : decode prog_7_method_16_code 136 = .ok (.iadd, 1) := by decide +kernel
theorem d_Mo_determinant_137 : decode prog_7_method_16_code 137 = .ok (.aaload, 1) := by decide +kernel
theorem d_Mo_determinant_138 : decode prog_7_method_16_code 138 = .ok (.invokevirtual 7, 3) := by decide +kernel
theorem d_Mo_determinant_141 : decode prog_7_method_16_code 141 = .ok (.aload_n 0, 1) := by decide +kernel
theorem d_Mo_determinant_142 : decode prog_7_method_16_code 142 = .ok (.getfield 140, 3) := by decide +kernel
theorem d_Mo_determinant_145 : decode prog_7_method_16_code 145 = .ok (.bipush 6, 2) := by decide +kernel
theorem d_Mo_determinant_147 : decode prog_7_method_16_code 147 = .ok (.iload 4, 2) := by decide +kernel
theorem d_Mo_determinant_149 : decode prog_7_method_16_code 149 = .ok (.imul, 1) := by decide +kernel
theorem d_Mo_determinant_150 : decode prog_7_method_16_code 150 = .ok (.iload 5, 2) := by decide +kernel
theorem d_Mo_determinant_152 : decode prog_7_method_16_code 152 = .ok (.iadd, 1) := by decide +kernel
theorem d_Mo_determinant_153 : decode prog_7_method_16_code 153 = .ok (.aaload, 1) := by decide +kernel
theorem d_Mo_determinant_154 : decode prog_7_method_16_code 154 = .ok (.aload_n 0, 1) := by decide +kernel
theorem d_Mo_determinant_155 : decode prog_7_method_16_code 155 = .ok (.getfield 140, 3) := by decide +kernel
theorem d_Mo_determinant_158 : decode prog_7_method_16_code 158 = .ok (.bipush 6, 2) := by decide +kernel
theorem d_Mo_determinant_160 : decode prog_7_method_16_code 160 = .ok (.iload_n 3, 1) := by decide +kernel
theorem d_Mo_determinant_161 : decode prog_7_method_16_code 161 = .ok (.imul, 1) := by decide +kernel
theorem d_Mo_determinant_162 : decode prog_7_method_16_code 162 = .ok (.iload 5, 2) := by decide +kernel
theorem d_Mo_determinant_164 : decode prog_7_method_16_code 164 = .ok (.iadd, 1) := by decide +kernel
theorem d_Mo_determinant_165 : decode prog_7_method_16_code 165 = .ok (.aaload, 1) := by decide +kernel
theorem d_Mo_determinant_166 : decode prog_7_method_16_code 166 = .ok (.invokevirtual 7, 3) := by decide +kernel
theorem d_Mo_determinant_169 : decode prog_7_method_16_code 169 = .ok (.aload_n 0, 1) := by decide +kernel
theorem d_Mo_determinant_170 : decode prog_7_method_16_code 170 = .ok (.getfield 140, 3) := by decide +kernel
theorem d_Mo_determinant_173 : decode prog_7_method_16_code 173 = .ok (.bipush 6, 2) := by decide +kernel
theorem d_Mo_determinant_175 : decode prog_7_method_16_code 175 = .ok (.iload_n 3, 1) := by decide +kernel
theorem d_Mo_determinant_176 : decode prog_7_method_16_code 176 = .ok (.imul, 1) := by decide +kernel
theorem d_Mo_determinant_177 : decode prog_7_method_16_code 177 = .ok (.iload 5, 2) := by decide +kernel
theorem d_Mo_determinant_179 : decode prog_7_method_16_code 179 = .ok (.iadd, 1) := by decide +kernel
theorem d_Mo_determinant_180 : decode prog_7_method_16_code 180 = .ok (.aaload, 1) := by decide +kernel
theorem d_Mo_determinant_181 : decode prog_7_method_16_code 181 = .ok (.aload_n 0, 1) := by decide +kernel
theorem d_Mo_determinant_182 : decode prog_7_method_16_code 182 = .ok (.getfield 58, 3) := by decide +kernel
theorem d_Mo_determinant_185 : decode prog_7_method_16_code 185 = .ok (.invokevirtual 7, 3) := by decide +kernel
theorem d_Mo_determinant_188 : decode prog_7_method_16_code 188 = .ok (.iinc 5 1, 3) := by decide +kernel
theorem d_Mo_determinant_191 : decode prog_7_method_16_code 191 = .ok (.goto (-82), 3) := by decide +kernel
theorem d_Mo_determinant_194 : decode prog_7_method_16_code 194 = .ok (.iload 4, 2) := by decide +kernel
theorem d_Mo_determinant_196 : decode prog_7_method_16_code 196 = .ok (.iload_n 3, 1) := by decide +kernel
theorem d_Mo_determinant_197 : decode prog_7_method_16_code 197 = .ok (.if_icmp .eq 8, 3) := by decide +kernel
theorem d_Mo_determinant_200 : decode prog_7_method_16_code 200 = .ok (.iload_n 2, 1) := by decide +kernel
theorem d_Mo_determinant_201 : decode prog_7_method_16_code 201 = .ok (.ineg, 1) := by decide +kernel
theorem d_Mo_determinant_202 : decode prog_7_method_16_code 202 = .ok (.goto 4, 3) := by decide +kernel
theorem d_Mo_determinant_205 : decode prog_7_method_16_code 205 = .ok (.iload_n 2, 1) := by decide +kernel
theorem d_Mo_determinant_206 : decode prog_7_method_16_code 206 = .ok (.istore_n 2, 1) := by decide +kernel
theorem d_Mo_determinant_207 : decode prog_7_method_16_code 207 = .ok (.iload_n 3, 1) := by decide +kernel
theorem d_Mo_determinant_208 : decode prog_7_method_16_code 208 = .ok (.iconst 1, 1) := by decide +kernel
theorem d_Mo_determinant_209 : decode prog_7_method_16_code 209 = .ok (.iadd, 1) := by decide +kernel
theorem d_Mo_determinant_210 : decode prog_7_method_16_code 210 = .ok (.istore 5, 2) := by decide +kernel
theorem d_Mo_determinant_212 : decode prog_7_method_16_code 212 = .ok (.iload 5, 2) := by decide +kernel
theorem d_Mo_determinant_214 : decode prog_7_method_16_code 214 = .ok (.iload_n 1, 1) := by decide +kernel
theorem d_Mo_determinant_215 : decode prog_7_method_16_code 215 = .ok (.if_icmp .ge 180, 3) := by decide +kernel
theorem d_Mo_determinant_218 : decode prog_7_method_16_code 218 = .ok (.iload_n 3, 1) := by decide +kernel
theorem d_Mo_determinant_219 : decode prog_7_method_16_code 219 = .ok (.iconst 1, 1) := by decide +kernel
theorem d_Mo_determinant_220 : decode prog_7_method_16_code 220 = .ok (.iadd, 1) := by decide +kernel
theorem d_Mo_determinant_221 : decode prog_7_method_16_code 221 = .ok (.istore 6, 2) := by decide +kernel
theorem d_Mo_determinant_223 : decode prog_7_method_16_code 223 = .ok (.iload 6, 2) := by decide +kernel
theorem d_Mo_determinant_225 : decode prog_7_method_16_code 225 = .ok (.iload_n 1, 1) := by decide +kernel
theorem d_Mo_determinant_226 : decode prog_7_method_16_code 226 = .ok (.if_icmp .ge 163, 3) := by decide +kernel
theorem d_Mo_determinant_229 : decode prog_7_method_16_code 229 = .ok (.aload_n 0, 1) := by decide +kernel
theorem d_Mo_determinant_230 : decode prog_7_method_16_code 230 = .ok (.getfield 58, 3) := by decide +kernel
theorem d_Mo_determinant_233 : decode prog_7_method_16_code 233 = .ok (.aload_n 0, 1) := by decide +kernel
theorem d_Mo_determinant_234 : decode prog_7_method_16_code 234 = .ok (.getfield 140, 3) := by decide +kernel
theorem d_Mo_determinant_237 : decode prog_7_method_16_code 237 = .ok (.bipush 6, 2) := by decide +kernel
theorem d_Mo_determinant_239 : decode prog_7_method_16_code 239 = .ok (.iload 5, 2) := by decide +kernel
theorem d_Mo_determinant_241 : decode prog_7_method_16_code 241 = .ok (.imul, 1) := by decide +kernel
theorem d_Mo_determinant_242 : decode prog_7_method_16_code 242 = .ok (.iload 6, 2) := by decide +kernel
theorem d_Mo_determinant_244 : decode prog_7_method_16_code 244 = .ok (.iadd, 1) := by decide +kernel
theorem d_Mo_determinant_245 : decode prog_7_method_16_code 245 = .ok (.aaload, 1) := by decide +kernel
theorem d_Mo_determinant_246 : decode prog_7_method_16_code 246 = .ok (.aload_n 0, 1) := by decide +kernel
theorem d_Mo_determinant_247 : decode prog_7_method_16_code 247 = .ok (.getfield 140, 3) := by decide +kernel
theorem d_Mo_determinant_250 : decode prog_7_method_16_code 250 = .ok (.bipush 6, 2) := by decide +kernel
theorem d_Mo_determinant_252 : decode prog_7_method_16_code 252 = .ok (.iload_n 3, 1) := by decide +kernel
theorem d_Mo_determinant_253 : decode prog_7_method_16_code 253 = .ok (.imul, 1) := by decide +kernel
theorem d_Mo_determinant_254 : decode prog_7_method_16_code 254 = .ok (.iload_n 3, 1) := by decide +kernel
theorem d_Mo_determinant_255 : decode prog_7_method_16_code 255 = .ok (.iadd, 1) := by decide +kernel
theorem d_Mo_determinant_256 : decode prog_7_method_16_code 256 = .ok (.aaload, 1) := by decide +kernel
theorem d_Mo_determinant_257 : decode prog_7_method_16_code 257 = .ok (.invokevirtual 71, 3) := by decide +kernel
theorem d_Mo_determinant_260 : decode prog_7_method_16_code 260 = .ok (.aload_n 0, 1) := by decide +kernel
theorem d_Mo_determinant_261 : decode prog_7_method_16_code 261 = .ok (.getfield 27, 3) := by decide +kernel
theorem d_Mo_determinant_264 : decode prog_7_method_16_code 264 = .ok (.aload_n 0, 1) := by decide +kernel
theorem d_Mo_determinant_265 : decode prog_7_method_16_code 265 = .ok (.getfield 140, 3) := by decide +kernel
theorem d_Mo_determinant_268 : decode prog_7_method_16_code 268 = .ok (.bipush 6, 2) := by decide +kernel
theorem d_Mo_determinant_270 : decode prog_7_method_16_code 270 = .ok (.iload 5, 2) := by decide +kernel
theorem d_Mo_determinant_272 : decode prog_7_method_16_code 272 = .ok (.imul, 1) := by decide +kernel
theorem d_Mo_determinant_273 : decode prog_7_method_16_code 273 = .ok (.iload_n 3, 1) := by decide +kernel
theorem d_Mo_determinant_274 : decode prog_7_method_16_code 274 = .ok (.iadd, 1) := by decide +kernel
theorem d_Mo_determinant_275 : decode prog_7_method_16_code 275 = .ok (.aaload, 1) := by decide +kernel
theorem d_Mo_determinant_276 : decode prog_7_method_16_code 276 = .ok (.aload_n 0, 1) := by decide +kernel
theorem d_Mo_determinant_277 : decode prog_7_method_16_code 277 = .ok (.getfield 140, 3) := by decide +kernel
theorem d_Mo_determinant_280 : decode prog_7_method_16_code 280 = .ok (.bipush 6, 2) := by decide +kernel
theorem d_Mo_determinant_282 : decode prog_7_method_16_code 282 = .ok (.iload_n 3, 1) := by decide +kernel
theorem d_Mo_determinant_283 : decode prog_7_method_16_code 283 = .ok (.imul, 1) := by decide +kernel
theorem d_Mo_determinant_284 : decode prog_7_method_16_code 284 = .ok (.iload 6, 2) := by decide +kernel
theorem d_Mo_determinant_286 : decode prog_7_method_16_code 286 = .ok (.iadd, 1) := by decide +kernel
theorem d_Mo_determinant_287 : decode prog_7_method_16_code 287 = .ok (.aaload, 1) := by decide +kernel
theorem d_Mo_determinant_288 : decode prog_7_method_16_code 288 = .ok (.invokevirtual 71, 3) := by decide +kernel
theorem d_Mo_determinant_291 : decode prog_7_method_16_code 291 = .ok (.aload_n 0, 1) := by decide +kernel
theorem d_Mo_determinant_292 : decode prog_7_method_16_code 292 = .ok (.getfield 24, 3) := by decide +kernel
theorem d_Mo_determinant_295 : decode prog_7_method_16_code 295 = .ok (.aload_n 0, 1) := by decide +kernel
theorem d_Mo_determinant_296 : decode prog_7_method_16_code 296 = .ok (.getfield 58, 3) := by decide +kernel
theorem d_Mo_determinant_299 : decode prog_7_method_16_code 299 = .ok (.aload_n 0, 1) := by decide +kernel
theorem d_Mo_determinant_300 : decode prog_7_method_16_code 300 = .ok (.getfield 27, 3) := by decide +kernel
theorem d_Mo_determinant_303 : decode prog_7_method_16_code 303 = .ok (.invokevirtual 75, 3) := by decide +kernel
theorem d_Mo_determinant_306 : decode prog_7_method_16_code 306 = .ok (.iload_n 3, 1) := by decide +kernel
theorem d_Mo_determinant_307 : decode prog_7_method_16_code 307 = .ok (.ifCond .le 56, 3) := by decide +kernel
theorem d_Mo_determinant_310 : decode prog_7_method_16_code 310 = .ok (.aload_n 0, 1) := by decide +kernel
theorem d_Mo_determinant_311 : decode prog_7_method_16_code 311 = .ok (.getfield 58, 3) := by decide +kernel
theorem d_Mo_determinant_314 : decode prog_7_method_16_code 314 = .ok (.aload_n 0, 1) := by decide +kernel
theorem d_Mo_determinant_315 : decode prog_7_method_16_code 315 = .ok (.getfield 24, 3) := by decide +kernel
theorem d_Mo_determinant_318 : decode prog_7_method_16_code 318 = .ok (.aload_n 0, 1) := by decide +kernel
theorem d_Mo_determinant_319 : decode prog_7_method_16_code 319 = .ok (.getfield 140, 3) := by decide +kernel
theorem d_Mo_determinant_322 : decode prog_7_method_16_code 322 = .ok (.bipush 6, 2) := by decide +kernel
theorem d_Mo_determinant_324 : decode prog_7_method_16_code 324 = .ok (.iload_n 3, 1) := by decide +kernel
theorem d_Mo_determinant_325 : decode prog_7_method_16_code 325 = .ok (.iconst 1, 1) := by decide +kernel
theorem d_Mo_determinant_326 : decode prog_7_method_16_code 326 = .ok (.isub, 1) := by decide +kernel
theorem d_Mo_determinant_327 : decode prog_7_method_16_code 327 = .ok (.imul, 1) := by decide +kernel
theorem d_Mo_determinant_328 : decode prog_7_method_16_code 328 = .ok (.iload_n 3, 1) := by decide +kernel
theorem d_Mo_determinant_329 : decode prog_7_method_16_code 329 = .ok (.iadd, 1) := by decide +kernel
theorem d_Mo_determinant_330 : decode prog_7_method_16_code 330 = .ok (.iconst 1, 1) := by decide +kernel
theorem d_Mo_determinant_331 : decode prog_7_method_16_code 331 = .ok (.isub, 1) := by decide +kernel
theorem d_Mo_determinant_332 : decode prog_7_method_16_code 332 = .ok (.aaload, 1) := by decide +kernel
theorem d_Mo_determinant_333 : decode prog_7_method_16_code 333 = .ok (.aload_n 0, 1) := by decide +kernel
theorem d_Mo_determinant_334 : decode prog_7_method_16_code 334 = .ok (.getfield 27, 3) := by decide +kernel
theorem d_Mo_determinant_337 : decode prog_7_method_16_code 337 = .ok (.invokevirtual 30, 3) := by decide +kernel
theorem d_Mo_determinant_340 : decode prog_7_method_16_code 340 = .ok (.aload_n 0, 1) := by decide +kernel
theorem d_Mo_determinant_341 : decode prog_7_method_16_code 341 = .ok (.getfield 140, 3) := by decide +kernel
theorem d_Mo_determinant_344 : decode prog_7_method_16_code 344 = .ok (.bipush 6, 2) := by decide +kernel
theorem d_Mo_determinant_346 : decode prog_7_method_16_code 346 = .ok (.iload 5, 2) := by decide +kernel
theorem d_Mo_determinant_348 : decode prog_7_method_16_code 348 = .ok (.imul, 1) := by decide +kernel
theorem d_Mo_determinant_349 : decode prog_7_method_16_code 349 = .ok (.iload 6, 2) := by decide +kernel
theorem d_Mo_determinant_351 : decode prog_7_method_16_code 351 = .ok (.iadd, 1) := by decide +kernel
theorem d_Mo_determinant_352 : decode prog_7_method_16_code 352 = .ok (.aaload, 1) := by decide +kernel
theorem d_Mo_determinant_353 : decode prog_7_method_16_code 353 = .ok (.aload_n 0, 1) := by decide +kernel
theorem d_Mo_determinant_354 : decode prog_7_method_16_code 354 = .ok (.getfield 58, 3) := by decide +kernel
theorem d_Mo_determinant_357 : decode prog_7_method_16_code 357 = .ok (.invokevirtual 7, 3) := by decide +kernel
theorem d_Mo_determinant_360 : decode prog_7_method_16_code 360 = .ok (.goto 23, 3) := by decide +kernel
theorem d_Mo_determinant_363 : decode prog_7_method_16_code 363 = .ok (.aload_n 0, 1) := by decide +kernel
theorem d_Mo_determinant_364 : decode prog_7_method_16_code 364 = .ok (.getfield 140, 3) := by decide +kernel
theorem d_Mo_determinant_367 : decode prog_7_method_16_code 367 = .ok (.bipush 6, 2) := by decide +kernel
theorem d_Mo_determinant_369 : decode prog_7_method_16_code 369 = .ok (.iload 5, 2) := by decide +kernel
theorem d_Mo_determinant_371 : decode prog_7_method_16_code 371 = .ok (.imul, 1) := by decide +kernel
theorem d_Mo_determinant_372 : decode prog_7_method_16_code 372 = .ok (.iload 6, 2) := by decide +kernel
theorem d_Mo_determinant_374 : decode prog_7_method_16_code 374 = .ok (.iadd, 1) := by decide +kernel
theorem d_Mo_determinant_375 : decode prog_7_method_16_code 375 = .ok (.aaload, 1) := by decide +kernel
theorem d_Mo_determinant_376 : decode prog_7_method_16_code 376 = .ok (.aload_n 0, 1) := by decide +kernel
theorem d_Mo_determinant_377 : decode prog_7_method_16_code 377 = .ok (.getfield 24, 3) := by decide +kernel
theorem d_Mo_determinant_380 : decode prog_7_method_16_code 380 = .ok (.invokevirtual 7, 3) := by decide +kernel
theorem d_Mo_determinant_383 : decode prog_7_method_16_code 383 = .ok (.iinc 6 1, 3) := by decide +kernel
theorem d_Mo_determinant_386 : decode prog_7_method_16_code 386 = .ok (.goto (-163), 3) := by decide +kernel
theorem d_Mo_determinant_389 : decode prog_7_method_16_code 389 = .ok (.iinc 5 1, 3) := by decide +kernel
theorem d_Mo_determinant_392 : decode prog_7_method_16_code 392 = .ok (.goto (-180), 3) := by decide +kernel
theorem d_Mo_determinant_395 : decode prog_7_method_16_code 395 = .ok (.iinc 3 1, 3) := by decide +kernel
theorem d_Mo_determinant_398 : decode prog_7_method_16_code 398 = .ok (.goto (-338), 3) := by decide +kernel
theorem d_Mo_determinant_401 : decode prog_7_method_16_code 401 = .ok (.iload_n 1, 1) := by decide +kernel
theorem d_Mo_determinant_402 : decode prog_7_method_16_code 402 = .ok (.ifCond .ne 7, 3) := by decide +kernel
theorem d_Mo_determinant_405 : decode prog_7_method_16_code 405 = .ok (.iconst 1, 1) := by decide +kernel
theorem d_Mo_determinant_406 : decode prog_7_method_16_code 406 = .ok (.goto 23, 3) := by decide +kernel
theorem d_Mo_determinant_409 : decode prog_7_method_16_code 409 = .ok (.iload_n 2, 1) := by decide +kernel
theorem d_Mo_determinant_410 : decode prog_7_method_16_code 410 = .ok (.aload_n 0, 1) := by decide +kernel
theorem d_Mo_determinant_411 : decode prog_7_method_16_code 411 = .ok (.getfield 140, 3) := by decide +kernel
theorem d_Mo_determinant_414 : decode prog_7_method_16_code 414 = .ok (.bipush 6, 2) := by decide +kernel
theorem d_Mo_determinant_416 : decode prog_7_method_16_code 416 = .ok (.iload_n 1, 1) := by decide +kernel
theorem d_Mo_determinant_417 : decode prog_7_method_16_code 417 = .ok (.iconst 1, 1) := by decide +kernel
theorem d_Mo_determinant_418 : decode prog_7_method_16_code 418 = .ok (.isub, 1) := by decide +kernel
theorem d_Mo_determinant_419 : decode prog_7_method_16_code 419 = .ok (.imul, 1) := by decide +kernel
theorem d_Mo_determinant_420 : decode prog_7_method_16_code 420 = .ok (.iload_n 1, 1) := by decide +kernel
theorem d_Mo_determinant_421 : decode prog_7_method_16_code 421 = .ok (.iadd, 1) := by decide +kernel
theorem d_Mo_determinant_422 : decode prog_7_method_16_code 422 = .ok (.iconst 1, 1) := by decide +kernel
theorem d_Mo_determinant_423 : decode prog_7_method_16_code 423 = .ok (.isub, 1) := by decide +kernel
theorem d_Mo_determinant_424 : decode prog_7_method_16_code 424 = .ok (.aaload, 1) := by decide +kernel
theorem d_Mo_determinant_425 : decode prog_7_method_16_code 425 = .ok (.invokevirtual 143, 3) := by decide +kernel
theorem d_Mo_determinant_428 : decode prog_7_method_16_code 428 = .ok (.imul, 1) := by decide +kernel
theorem d_Mo_determinant_429 : decode prog_7_method_16_code 429 = .ok (.ireturn, 1) := by decide +kernel
def f_R_determinant (m_freeRows : Nat → Int32) (m_freeColumns : Nat → Int32) (pn : Nat → Int32) (pm : Nat → Int32) (pd : Nat → Nat → Int32) (n0 : Int32) : Option (Int32 × (Nat → Int32) × (Nat → Int32) × (Nat → Nat → Int32)) :=
  ck_jn (fun (pn_1 : Nat → Int32) (pm_2 : Nat → Int32) (pd_3 : Nat → Nat → Int32) => ck_jn (fun (v2_4 : Int32) (pn_5 : Nat → Int32) (pm_6 : Nat → Int32) (pd_7 : Nat → Nat → Int32) => ck_if (n0 = 0) (some (1, pn_5, pm_6, pd_7)) (ck_in (((6 * (n0 - 1)) + n0) - 1) 36 <| ck_nm (156 + (((6 * (n0 - 1)) + n0) - 1).toNatClampNeg) <| fun kp_10 => ck_b1 (f_N_sign (pn_5 kp_10) (pm_6 kp_10)) <| fun r_11 => some ((v2_4 * r_11), pn_5, pm_6, pd_7))) <| fun k_401 => lo5 (fun k_60 (v3_13 : Int32) (v2_14 : Int32) (pn_15 : Nat → Int32) (pm_16 : Nat → Int32) (pd_17 : Nat → Nat → Int32) => ck_if (n0 ≤ v3_13) (k_401 v2_14 pn_15 pm_16 pd_17) (ck_jn (fun (v4_19 : Int32) => ck_if (v4_19 = n0) (some (0, pn_15, pm_16, pd_17)) (ck_jn (fun (pn_21 : Nat → Int32) (pm_22 : Nat → Int32) (pd_23 : Nat → Nat → Int32) => ck_jn (fun (s0_24 : Int32) => ck_nm (v3_13 + 1) <| fun x_25 => ck_jn (fun (pn_26 : Nat → Int32) (pm_27 : Nat → Int32) (pd_28 : Nat → Nat → Int32) => ck_nm (v3_13 + 1) <| fun x_29 => k_60 x_29 s0_24 pn_26 pm_27 pd_28) <| fun k_395 => lo4 (fun k_212 (v5_30 : Int32) (pn_31 : Nat → Int32) (pm_32 : Nat → Int32) (pd_33 : Nat → Nat → Int32) => ck_if (n0 ≤ v5_30) (k_395 pn_31 pm_32 pd_33) (ck_nm (v3_13 + 1) <| fun x_35 => ck_jn (fun (pn_36 : Nat → Int32) (pm_37 : Nat → Int32) (pd_38 : Nat → Nat → Int32) => ck_nm (v5_30 + 1) <| fun x_39 => k_212 x_39 pn_36 pm_37 pd_38) <| fun k_389 => lo4 (fun k_223 (v6_40 : Int32) (pn_41 : Nat → Int32) (pm_42 : Nat → Int32) (pd_43 : Nat → Nat → Int32) => ck_if (n0 ≤ v6_40) (k_389 pn_41 pm_42 pd_43) (ck_in ((6 * v5_30) + v6_40) 36 <| ck_nm (156 + ((6 * v5_30) + v6_40).toNatClampNeg) <| fun kp_46 => ck_in ((6 * v3_13) + v3_13) 36 <| ck_nm (156 + ((6 * v3_13) + v3_13).toNatClampNeg) <| fun kp_48 => ck_p (192 ≠ kp_46 ∧ 192 ≠ kp_48 ∧ kp_46 ≠ kp_48) <| ck_b3 (f_N_product 160 (pd_43 192) (pn_41 kp_46) (pm_42 kp_46) 160 (pd_43 kp_46) (pn_41 kp_48) (pm_42 kp_48) 160 (pd_43 kp_48)) <| fun u_49 u_50 u_51 => ck_nm (upd pn_41 192 u_49) <| fun pn_53 => ck_nm (upd pm_42 192 u_50) <| fun pm_54 => ck_nm (va_up pd_43 192 u_51) <| fun pd_55 => ck_in ((6 * v5_30) + v3_13) 36 <| ck_nm (156 + ((6 * v5_30) + v3_13).toNatClampNeg) <| fun kp_67 => ck_in ((6 * v3_13) + v6_40) 36 <| ck_nm (156 + ((6 * v3_13) + v6_40).toNatClampNeg) <| fun kp_69 => ck_p (193 ≠ kp_67 ∧ 193 ≠ kp_69 ∧ kp_67 ≠ kp_69) <| ck_b3 (f_N_product 160 (pd_55 193) (pn_53 kp_67) (pm_54 kp_67) 160 (pd_55 kp_67) (pn_53 kp_69) (pm_54 kp_69) 160 (pd_55 kp_69)) <| fun u_70 u_71 u_72 => ck_nm (upd pn_53 193 u_70) <| fun pn_74 => ck_nm (upd pm_54 193 u_71) <| fun pm_75 => ck_nm (va_up pd_55 193 u_72) <| fun pd_76 => ck_p (194 ≠ 192 ∧ 194 ≠ 193 ∧ 192 ≠ 193) <| ck_b3 (f_N_less 160 (pd_76 194) (pn_74 192) (pm_75 192) 160 (pd_76 192) (pn_74 193) (pm_75 193) 160 (pd_76 193)) <| fun u_87 u_88 u_89 => ck_nm (upd pn_74 194 u_87) <| fun pn_91 => ck_nm (upd pm_75 194 u_88) <| fun pm_92 => ck_nm (va_up pd_76 194 u_89) <| fun pd_93 => ck_jn (fun (pn_104 : Nat → Int32) (pm_105 : Nat → Int32) (pd_106 : Nat → Nat → Int32) => ck_nm (v6_40 + 1) <| fun x_107 => k_223 x_107 pn_104 pm_105 pd_106) <| fun k_383 => ck_if (v3_13 ≤ 0) (ck_in ((6 * v5_30) + v6_40) 36 <| ck_nm (156 + ((6 * v5_30) + v6_40).toNatClampNeg) <| fun kp_110 => ck_p (kp_110 ≠ 194) <| ck_b3 (f_N_copy 160 (pd_93 kp_110) (pn_91 194) (pm_92 194) 160 (pd_93 194)) <| fun u_111 u_112 u_113 => ck_nm (upd pn_91 kp_110 u_111) <| fun pn_115 => ck_nm (upd pm_92 kp_110 u_112) <| fun pm_116 => ck_nm (va_up pd_93 kp_110 u_113) <| fun pd_117 => k_383 pn_115 pm_116 pd_117) (ck_in (((6 * (v3_13 - 1)) + v3_13) - 1) 36 <| ck_nm (156 + (((6 * (v3_13 - 1)) + v3_13) - 1).toNatClampNeg) <| fun kp_126 => ck_p (192 ≠ 194 ∧ 192 ≠ kp_126 ∧ 192 ≠ 193 ∧ 194 ≠ kp_126 ∧ 194 ≠ 193 ∧ kp_126 ≠ 193) <| ck_b6 (f_N_quotient 160 (pd_93 192) (pn_91 194) (pm_92 194) 160 (pd_93 194) (pn_91 kp_126) (pm_92 kp_126) 160 (pd_93 kp_126) 160 (pd_93 193)) <| fun u_127 u_128 u_129 u_130 u_131 u_132 => ck_nm (upd (upd pn_91 192 u_127) 193 u_130) <| fun pn_134 => ck_nm (upd (upd pm_92 192 u_128) 193 u_131) <| fun pm_135 => ck_nm (va_up (va_up pd_93 192 u_129) 193 u_132) <| fun pd_136 => ck_in ((6 * v5_30) + v6_40) 36 <| ck_nm (156 + ((6 * v5_30) + v6_40).toNatClampNeg) <| fun kp_151 => ck_p (kp_151 ≠ 192) <| ck_b3 (f_N_copy 160 (pd_136 kp_151) (pn_134 192) (pm_135 192) 160 (pd_136 192)) <| fun u_152 u_153 u_154 => ck_nm (upd pn_134 kp_151 u_152) <| fun pn_156 => ck_nm (upd pm_135 kp_151 u_153) <| fun pm_157 => ck_nm (va_up pd_136 kp_151 u_154) <| fun pd_158 => k_383 pn_156 pm_157 pd_158))) ck_F x_35 pn_31 pm_32 pd_33)) ck_F x_25 pn_21 pm_22 pd_23) <| fun k_206 => ck_if (v4_19 = v3_13) (k_206 v2_14) (k_206 (-v2_14))) <| fun k_194 => lo4 (fun k_109 (v5_167 : Int32) (pn_168 : Nat → Int32) (pm_169 : Nat → Int32) (pd_170 : Nat → Nat → Int32) => ck_if (n0 ≤ v5_167) (k_194 pn_168 pm_169 pd_170) (ck_if (v4_19 = v3_13) (k_194 pn_168 pm_169 pd_170) (ck_in ((6 * v4_19) + v5_167) 36 <| ck_nm (156 + ((6 * v4_19) + v5_167).toNatClampNeg) <| fun kp_174 => ck_p (192 ≠ kp_174) <| ck_b3 (f_N_copy 160 (pd_170 192) (pn_168 kp_174) (pm_169 kp_174) 160 (pd_170 kp_174)) <| fun u_175 u_176 u_177 => ck_nm (upd pn_168 192 u_175) <| fun pn_179 => ck_nm (upd pm_169 192 u_176) <| fun pm_180 => ck_nm (va_up pd_170 192 u_177) <| fun pd_181 => ck_in ((6 * v4_19) + v5_167) 36 <| ck_nm (156 + ((6 * v4_19) + v5_167).toNatClampNeg) <| fun kp_190 => ck_in ((6 * v3_13) + v5_167) 36 <| ck_nm (156 + ((6 * v3_13) + v5_167).toNatClampNeg) <| fun kp_192 => ck_p (kp_190 ≠ kp_192) <| ck_b3 (f_N_copy 160 (pd_181 kp_190) (pn_179 kp_192) (pm_180 kp_192) 160 (pd_181 kp_192)) <| fun u_193 u_194 u_195 => ck_nm (upd pn_179 kp_190 u_193) <| fun pn_197 => ck_nm (upd pm_180 kp_190 u_194) <| fun pm_198 => ck_nm (va_up pd_181 kp_190 u_195) <| fun pd_199 => ck_in ((6 * v3_13) + v5_167) 36 <| ck_nm (156 + ((6 * v3_13) + v5_167).toNatClampNeg) <| fun kp_208 => ck_p (kp_208 ≠ 192) <| ck_b3 (f_N_copy 160 (pd_199 kp_208) (pn_197 192) (pm_198 192) 160 (pd_199 192)) <| fun u_209 u_210 u_211 => ck_nm (upd pn_197 kp_208 u_209) <| fun pn_213 => ck_nm (upd pm_198 kp_208 u_210) <| fun pm_214 => ck_nm (va_up pd_199 kp_208 u_211) <| fun pd_215 => ck_nm (v5_167 + 1) <| fun x_223 => k_109 x_223 pn_213 pm_214 pd_215))) ck_F 0 pn_15 pm_16 pd_17)) <| fun k_98 => lo1 (fun k_68 (v4_224 : Int32) => ck_if (n0 ≤ v4_224) (k_98 v4_224) (ck_in ((6 * v4_224) + v3_13) 36 <| ck_nm (156 + ((6 * v4_224) + v3_13).toNatClampNeg) <| fun kp_227 => ck_if ((pn_15 kp_227) = 0) (ck_nm (v4_224 + 1) <| fun x_229 => k_68 x_229) (k_98 v4_224))) ck_F v3_13)) ck_F 0 1 pn_1 pm_2 pd_3) <| fun k_56 => lo4 (fun k_2 (v2_230 : Int32) (pn_231 : Nat → Int32) (pm_232 : Nat → Int32) (pd_233 : Nat → Nat → Int32) => ck_if (n0 ≤ v2_230) (k_56 pn_231 pm_232 pd_233) (ck_jn (fun (pn_235 : Nat → Int32) (pm_236 : Nat → Int32) (pd_237 : Nat → Nat → Int32) => ck_nm (v2_230 + 1) <| fun x_238 => k_2 x_238 pn_235 pm_236 pd_237) <| fun k_50 => lo4 (fun k_9 (v3_239 : Int32) (pn_240 : Nat → Int32) (pm_241 : Nat → Int32) (pd_242 : Nat → Nat → Int32) => ck_if (n0 ≤ v3_239) (k_50 pn_240 pm_241 pd_242) (ck_in ((6 * v2_230) + v3_239) 36 <| ck_nm (156 + ((6 * v2_230) + v3_239).toNatClampNeg) <| fun kp_245 => ck_in v2_230 12 <| ck_in v3_239 12 <| ck_b1 (f_R_at (m_freeRows v2_230.toNatClampNeg) (m_freeColumns v3_239.toNatClampNeg)) <| fun r_248 => ck_p (kp_245 ≠ r_248) <| ck_b3 (f_N_copy 160 (pd_242 kp_245) (pn_240 r_248) (pm_241 r_248) 160 (pd_242 r_248)) <| fun u_250 u_251 u_252 => ck_nm (upd pn_240 kp_245 u_250) <| fun pn_254 => ck_nm (upd pm_241 kp_245 u_251) <| fun pm_255 => ck_nm (va_up pd_242 kp_245 u_252) <| fun pd_256 => ck_nm (v3_239 + 1) <| fun x_264 => k_9 x_264 pn_254 pm_255 pd_256)) ck_F 0 pn_231 pm_232 pd_233)) ck_F 0 pn pm pd
set_option maxHeartbeats 4000000 in
set_option maxRecDepth 100000 in
theorem c_R_determinant (l : Launch) (dC : Nat → ClassId) (dI : Nat → Nat → Nat) (cI cJ cB cZ cT cN : ClassId) (sz : Nat) (ha NA ND : Nat → Nat) (m_rows : Int32) (m_columns : Int32) (m_prime : Int32) (m_small : Nat → Int32) (m_pivots : Nat → Int32) (m_freeRows : Nat → Int32) (m_freeColumns : Nat → Int32) (m_smallMinor : Nat → Int32) (m_fields : Nat → Int32) (m_rowCounts : Nat → Int32) (m_elements : Nat → Int32) (m_numbers : Nat → Int32) (m_known : Nat → Int32) (m_ranks : Nat → Int32) (m_rankOf : Nat → Int32) (m_signOf : Nat → Int32) (m_order : Nat → Int32) (m_sizes : Nat → Int32) (m_coefficients : Nat → Int64) (m_choices : Nat → Int64) (m_sorted : Nat → Int32) (pn : Nat → Int32) (pm : Nat → Int32) (pd : Nat → Nat → Int32) (n0 : Int32) (r : Int32 × (Nat → Int32) × (Nat → Int32) × (Nat → Nat → Int32)) (h : f_R_determinant m_freeRows m_freeColumns pn pm pd n0 = some r) : Met l y_Mo_determinant w_Mo_determinant ({ frames := 3, cells := 0, slots := 0, locals := 80 } : Room) (va_Pc [.ref (ha 0), .int n0] (fun U => U.heap.size = sz ∧ va_P (dC, dI) cl_all (xw cI cJ cB cZ cN ha NA m_rows m_columns m_prime m_small m_pivots m_freeRows m_freeColumns m_smallMinor m_fields m_rowCounts m_elements m_numbers m_known m_ranks m_rankOf m_signOf m_order m_sizes m_coefficients m_choices m_sorted ++ po cI NA ND pn pm pd) U.heap ∧ va_K (dC, dI) cl_all [(cI, .int), (cJ, .long), (cB, .byte), (cZ, .boolean), (cT, .object "BasisWalk$Table"), (cN, .object "BasisWalkModel$Num")] U ∧ NW U ∧ va_D (fun _ => True) (xw cI cJ cB cZ cN ha NA m_rows m_columns m_prime m_small m_pivots m_freeRows m_freeColumns m_smallMinor m_fields m_rowCounts m_elements m_numbers m_known m_ranks m_rankOf m_signOf m_order m_sizes m_coefficients m_choices m_sorted ++ po cI NA ND pn pm pd))) (va_Qi (fun (v : Int32) (u : (Nat → Int32) × (Nat → Int32) × (Nat → Nat → Int32)) => (v, u) = r) (fun (u : (Nat → Int32) × (Nat → Int32) × (Nat → Nat → Int32)) (t : State) => va_P (dC, dI) cl_all (xw cI cJ cB cZ cN ha NA m_rows m_columns m_prime m_small m_pivots m_freeRows m_freeColumns m_smallMinor m_fields m_rowCounts m_elements m_numbers m_known m_ranks m_rankOf m_signOf m_order m_sizes m_coefficients m_choices m_sorted ++ po cI NA ND u.1 u.2.1 u.2.2) t.heap ∧ va_K (dC, dI) cl_all [(cI, .int), (cJ, .long), (cB, .byte), (cZ, .boolean), (cT, .object "BasisWalk$Table"), (cN, .object "BasisWalkModel$Num")] t ∧ va_D (va_A (xw cI cJ cB cZ cN ha NA m_rows m_columns m_prime m_small m_pivots m_freeRows m_freeColumns m_smallMinor m_fields m_rowCounts m_elements m_numbers m_known m_ranks m_rankOf m_signOf m_order m_sizes m_coefficients m_choices m_sorted ++ po cI NA ND pn pm pd) sz) (xw cI cJ cB cZ cN ha NA m_rows m_columns m_prime m_small m_pivots m_freeRows m_freeColumns m_smallMinor m_fields m_rowCounts m_elements m_numbers m_known m_ranks m_rankOf m_signOf m_order m_sizes m_coefficients m_choices m_sorted ++ po cI NA ND u.1 u.2.1 u.2.2)) (va_A (xw cI cJ cB cZ cN ha NA m_rows m_columns m_prime m_small m_pivots m_freeRows m_freeColumns m_smallMinor m_fields m_rowCounts m_elements m_numbers m_known m_ranks m_rankOf m_signOf m_order m_sizes m_coefficients m_choices m_sorted ++ po cI NA ND pn pm pd) sz)) 0 0 (va_A (xw cI cJ cB cZ cN ha NA m_rows m_columns m_prime m_small m_pivots m_freeRows m_freeColumns m_smallMinor m_fields m_rowCounts m_elements m_numbers m_known m_ranks m_rankOf m_signOf m_order m_sizes m_coefficients m_choices m_sorted ++ po cI NA ND pn pm pd) sz) := by
  refine Met.ofW (cc := prog_7_method_16_code) (maxL := 7) (ret := (Option.some Jvm.ClassFile.FieldType.int)) (by decide) rfl ?_
  intro p e s m args below meth c s₁ B hml hv
  obtain ⟨hAR, hsz, hP, hK, hN, hD0⟩ := hv
  have hx := B.exec
  have hb := B.bytes
  have hr := B.returns
  have hts := atoms_spec (ws := w_Mo_determinant) B.pre
  have hown : s.vm.findClass "BasisWalkModel" = some m.cls := findClass_of_methodNamed B.named
  have hlocks := B.notSynchronized
  clear B
  subst hsz
  have hD := hD0.self (sz := s.heap.size)
  generalize hAe : va_A (xw cI cJ cB cZ cN ha NA m_rows m_columns m_prime m_small m_pivots m_freeRows m_freeColumns m_smallMinor m_fields m_rowCounts m_elements m_numbers m_known m_ranks m_rankOf m_signOf m_order m_sizes m_coefficients m_choices m_sorted ++ po cI NA ND pn pm pd) s.heap.size = A at hD ⊢
  have hA : ∀ q : Nat, s.heap.size ≤ q → A q := fun q h => by rw [← hAe]; exact Or.inr h
  clear hAe hD0
  have hS : va_S A s.heap s.heap [] := va_S.rf
  have hl := lv_entry ([.ref (ha 0), .int n0]) (n := 7) (Nat.le_of_ble_eq_true rfl)
  subst hAR
  rw [lg_entry_eq]
  generalize (lg_sl ([.ref (ha 0), .int n0]) ++ List.replicate (7 - (lg_sl ([.ref (ha 0), .int n0])).length) Slot.unset).toArray = ls at hl ⊢
  have hl : lv_has ls 7 [(0, .ref (ha 0)), (1, .int n0)] := hl
  change W p l e ({ frames := 3, cells := 0, slots := 0, locals := 80 } : Room) s m _ below meth c s.heap [] 0 0 _ _
  generalize hARe : ([.ref (ha 0), .int n0] : List Value).toArray = AR at hts ⊢
  clear hARe
  generalize hQ : MQ below _ AR s 0 0 A = QQ
  have fl0 := hts _ (List.mem_cons_of_mem _ tw_371)
  have iw1 := (fun w hw => List.mem_cons_of_mem _ (in_Mo w hw) : ∀ w ∈ u_ws "BasisWalkModel" T_Mo 31, w ∈ w_Mo_determinant)
  have fl2 := hts _ (List.mem_cons_of_mem _ tw_355)
  have fl3 := hts _ (List.mem_cons_of_mem _ tw_356)
  have fl4 := hts _ (List.mem_cons_of_mem _ tw_357)
  have fl5 := hts _ (List.mem_cons_of_mem _ tw_339)
  have iw6 := (fun w hw => List.mem_cons_of_mem _ (in_Nu w hw) : ∀ w ∈ u_ws "BasisWalkModel$Num" T_Nu 3, w ∈ w_Mo_determinant)
  have fl7 := hts _ (List.mem_cons_of_mem _ tw_369)
  have fl8 := hts _ (List.mem_cons_of_mem _ tw_370)
  obtain ⟨H, hHe⟩ : ∃ H : Heap, H = s.heap := ⟨_, rfl⟩
  rw [← hHe] at hP ⊢
  replace hS : va_S A s.heap H [] := by rw [hHe]; exact va_S.rf
  clear hHe
  unfold f_R_determinant at h
  refine lv_iconst (v := 0) hx hb d_Mo_determinant_0 (by decide) ?_
  refine lv_istore_n (lv' := [(2, .int 0), (0, .ref (ha 0)), (1, .int n0)]) hx hb d_Mo_determinant_1 rfl hl (by decide) rfl (fun ls hl => ?_)
  refine ck_jn_W h (fun k' => ∀ (pn_1 : Nat → Int32) (pm_2 : Nat → Int32) (pd_3 : Nat → Nat → Int32), k' pn_1 pm_2 pd_3 = some r → ∀ (H : Heap) (locs : List Loc), va_P (dC, dI) cl_all (xw cI cJ cB cZ cN ha NA m_rows m_columns m_prime m_small m_pivots m_freeRows m_freeColumns m_smallMinor m_fields m_rowCounts m_elements m_numbers m_known m_ranks m_rankOf m_signOf m_order m_sizes m_coefficients m_choices m_sorted ++ po cI NA ND pn_1 pm_2 pd_3) H → va_D A (xw cI cJ cB cZ cN ha NA m_rows m_columns m_prime m_small m_pivots m_freeRows m_freeColumns m_smallMinor m_fields m_rowCounts m_elements m_numbers m_known m_ranks m_rankOf m_signOf m_order m_sizes m_coefficients m_choices m_sorted ++ po cI NA ND pn_1 pm_2 pd_3) → va_S A s.heap H locs → ∀ ls : Array Slot, lv_has ls 7 [(0, .ref (ha 0)), (1, .int n0)] → W p l e ({ frames := 3, cells := 0, slots := 0, locals := 80 } : Room) s m AR below meth c H locs 0 0 QQ (F0 m 56 ls [])) ?_ ?_
  · intro pn_1 pm_2 pd_3 h H locs hP hD hS ls hl
    refine lv_iconst (v := 1) hx hb d_Mo_determinant_56 (by decide) ?_
    refine lv_istore_n (lv' := [(2, .int 1), (0, .ref (ha 0)), (1, .int n0)]) hx hb d_Mo_determinant_57 rfl hl (by decide) rfl (fun ls hl => ?_)
    refine lv_iconst (v := 0) hx hb d_Mo_determinant_58 (by decide) ?_
    refine lv_istore_n (lv' := [(3, .int 0), (2, .int 1), (0, .ref (ha 0)), (1, .int n0)]) hx hb d_Mo_determinant_59 rfl hl (by decide) rfl (fun ls hl => ?_)
    refine ck_jn_W h (fun k' => ∀ (v2_4 : Int32) (pn_5 : Nat → Int32) (pm_6 : Nat → Int32) (pd_7 : Nat → Nat → Int32), k' v2_4 pn_5 pm_6 pd_7 = some r → ∀ (H : Heap) (locs : List Loc), va_P (dC, dI) cl_all (xw cI cJ cB cZ cN ha NA m_rows m_columns m_prime m_small m_pivots m_freeRows m_freeColumns m_smallMinor m_fields m_rowCounts m_elements m_numbers m_known m_ranks m_rankOf m_signOf m_order m_sizes m_coefficients m_choices m_sorted ++ po cI NA ND pn_5 pm_6 pd_7) H → va_D A (xw cI cJ cB cZ cN ha NA m_rows m_columns m_prime m_small m_pivots m_freeRows m_freeColumns m_smallMinor m_fields m_rowCounts m_elements m_numbers m_known m_ranks m_rankOf m_signOf m_order m_sizes m_coefficients m_choices m_sorted ++ po cI NA ND pn_5 pm_6 pd_7) → va_S A s.heap H locs → ∀ ls : Array Slot, lv_has ls 7 [(0, .ref (ha 0)), (1, .int n0), (2, .int v2_4)] → W p l e ({ frames := 3, cells := 0, slots := 0, locals := 80 } : Room) s m AR below meth c H locs 0 0 QQ (F0 m 401 ls [])) ?_ ?_
    · intro v2_4 pn_5 pm_6 pd_7 h H locs hP hD hS ls hl
      refine lv_iload_n hx hb d_Mo_determinant_401 rfl (lv_at hl 1 rfl) ?_
      refine lv_if_ne (tgt := 409) hx hb d_Mo_determinant_402 (by decide) (fun c_8 => ?_) (fun c_8 => ?_)
      · replace h := ck_if_f h c_8
        refine lv_iload_n hx hb d_Mo_determinant_409 rfl (lv_at hl 2 rfl) ?_
        refine lv_aload_n hx hb d_Mo_determinant_410 rfl (lv_at hl 0 rfl) ?_
        refine va_get (D := (dC, dI)) (ci := 6) (v := .ref (ha 6)) (C := "BasisWalkModel") (T := T_Mo) (N := 31) hx hb hts iw1 hown hK hP 0 rfl rfl 16 (by decide) fl0 (fun _ h9 => h9) rfl d_Mo_determinant_411 ?_
        refine lv_bipush (v := 6) hx hb d_Mo_determinant_414 (by decide) ?_
        refine lv_iload_n hx hb d_Mo_determinant_416 rfl (lv_at hl 1 rfl) ?_
        refine lv_iconst (v := 1) hx hb d_Mo_determinant_417 (by decide) ?_
        refine lv_isub hx hb d_Mo_determinant_418 ?_
        refine lv_imul hx hb d_Mo_determinant_419 ?_
        refine lv_iload_n hx hb d_Mo_determinant_420 rfl (lv_at hl 1 rfl) ?_
        refine lv_iadd hx hb d_Mo_determinant_421 ?_
        refine lv_iconst (v := 1) hx hb d_Mo_determinant_422 (by decide) ?_
        refine lv_isub hx hb d_Mo_determinant_423 ?_
        obtain ⟨g_9, h⟩ := ck_in_s h
        refine va_aldq hx hb hK hP 6 5 rfl rfl g_9 d_Mo_determinant_424 ?_
        obtain ⟨kp_10, ekp_10⟩ : ∃ y : Nat, y = (156 + (((6 * (n0 - 1)) + n0) - 1).toNatClampNeg) := ⟨_, rfl⟩
        replace h := ck_nm_s h ekp_10
        have hkp_10 : kp_10 < 200 := by have q9 := vp_lt g_9; omega
        refine W.eq (g2 := F0 m 425 ls [.ref (NA kp_10), .int v2_4]) (by rw [ekp_10]; rfl) ?_
        obtain ⟨r_11, hc_12, h⟩ := ck_b1_s h
        obtain ⟨hPc, hDc⟩ := po_cut (ks := [kp_10]) (ks1 hkp_10) (nd1) hP hD
        have hPc : va_P (dC, dI) cl_all [(NA kp_10, .inr (5, [.ref (ND kp_10), .int (pn_5 kp_10), .int (pm_6 kp_10)])), (ND kp_10, .inl (cI, 160, .inl (pd_7 kp_10)))] H := hPc
        have hDc : va_D A [(NA kp_10, .inr (5, [.ref (ND kp_10), .int (pn_5 kp_10), .int (pm_6 kp_10)])), (ND kp_10, .inl (cI, 160, .inl (pd_7 kp_10)))] := hDc
        have hFc := pw_free hDc hS hA
        refine va_calli (va_runV (As := []) (rest := [.int v2_4]) ⟨hx, hb, hml, hown, hts⟩ (c_N_sign l dC dI cI cJ cB cZ cT cN H.size (NA kp_10) (ND kp_10) (pn_5 kp_10) (pm_6 kp_10) 160 (pd_7 kp_10) _ hc_12) (cwV 0 hts (tb_V tw_594 tw_595 tw_596 tw_7 tw_597) rfl rfl rfl (by decide +kernel) ⟨Nat.le_of_ble_eq_true rfl, Nat.le_of_ble_eq_true rfl⟩) ⟨fun a U g mk q => by obtain ⟨q0, q1, qP, qK, qN, qD⟩ := q; exact ⟨q0, q1, qP, va_K.moved (u := U) (U := U.calling g mk a) (Vm.Alike.refl U.vm) qK, qN.same rfl, qD⟩, va_recv hK hPc (ci := 5) (q0 := 0) rfl rfl, fun U hU hW => ⟨rfl, by rw [hU], by rw [hU]; exact hPc, va_K.moved hW.alike hK, hN.warm hW, hDc.weaken (fun _ _ _ _ => trivial)⟩⟩ rfl rfl hl.1 rfl (lv_room (Nat.le_of_ble_eq_true rfl)) d_Mo_determinant_425 ⟨Nat.zero_le _, Nat.zero_le _⟩) hS (fun q _ h => hFc q h) hFc (fun rr u t H1 locs ht hvm hw hB hz1 hk1 hS => ?_)
        replace hw := hw.symm
        subst hw
        obtain ⟨hP1, -, hD1⟩ := hB
        rw [ht] at hP1
        obtain ⟨hP, hD⟩ := po_back (ks := [kp_10]) (pn' := pn_5) (pm' := pm_6) (pd' := pd_7) (ks1 hkp_10) hP hD hk1 (by show va_P (dC, dI) cl_all [(NA kp_10, .inr (5, [.ref (ND kp_10), .int (pn_5 kp_10), .int (pm_6 kp_10)])), (ND kp_10, .inl (cI, 160, .inl (pd_7 kp_10)))] H1; exact hP1) (fun j hj => by simp only [List.mem_cons, List.not_mem_nil, or_false, not_or] at hj; exact ⟨rfl, rfl, rfl⟩)
        generalize H1 = H at hP hS ⊢
        have hP : va_P (dC, dI) cl_all (xw cI cJ cB cZ cN ha NA m_rows m_columns m_prime m_small m_pivots m_freeRows m_freeColumns m_smallMinor m_fields m_rowCounts m_elements m_numbers m_known m_ranks m_rankOf m_signOf m_order m_sizes m_coefficients m_choices m_sorted ++ po cI NA ND pn_5 pm_6 pd_7) H := hP
        have hD : va_D A (xw cI cJ cB cZ cN ha NA m_rows m_columns m_prime m_small m_pivots m_freeRows m_freeColumns m_smallMinor m_fields m_rowCounts m_elements m_numbers m_known m_ranks m_rankOf m_signOf m_order m_sizes m_coefficients m_choices m_sorted ++ po cI NA ND pn_5 pm_6 pd_7) := hD
        refine lv_imul hx hb d_Mo_determinant_428 ?_
        obtain rfl := Option.some.inj h
        subst hQ
        exact W.iret (v := (v2_4 * r_11)) hx hb hr (fun t ht hW => ⟨⟨(v2_4 * r_11), (pn_5, pm_6, pd_7), rfl, rfl, by rw [ht]; exact hP, va_K.moved hW.alike hK, hD⟩, hS.F ht⟩) hS.2.2 d_Mo_determinant_429
      · replace h := ck_if_t h c_8
        refine lv_iconst (v := 1) hx hb d_Mo_determinant_405 (by decide) ?_
        refine lv_goto (tgt := 429) hx hb d_Mo_determinant_406 (by decide) ?_
        obtain rfl := Option.some.inj h
        subst hQ
        exact W.iret (v := 1) hx hb hr (fun t ht hW => ⟨⟨1, (pn_5, pm_6, pd_7), rfl, rfl, by rw [ht]; exact hP, va_K.moved hW.alike hK, hD⟩, hS.F ht⟩) hS.2.2 d_Mo_determinant_429
    · intro k_401 J_401 h
      refine lo5_W (r := r) (fun (v3_13 : Int32) (v2_14 : Int32) (pn_15 : Nat → Int32) (pm_16 : Nat → Int32) (pd_17 : Nat → Nat → Int32) => ∀ (H : Heap) (locs : List Loc), va_P (dC, dI) cl_all (xw cI cJ cB cZ cN ha NA m_rows m_columns m_prime m_small m_pivots m_freeRows m_freeColumns m_smallMinor m_fields m_rowCounts m_elements m_numbers m_known m_ranks m_rankOf m_signOf m_order m_sizes m_coefficients m_choices m_sorted ++ po cI NA ND pn_15 pm_16 pd_17) H → va_D A (xw cI cJ cB cZ cN ha NA m_rows m_columns m_prime m_small m_pivots m_freeRows m_freeColumns m_smallMinor m_fields m_rowCounts m_elements m_numbers m_known m_ranks m_rankOf m_signOf m_order m_sizes m_coefficients m_choices m_sorted ++ po cI NA ND pn_15 pm_16 pd_17) → va_S A s.heap H locs → ∀ ls : Array Slot, lv_has ls 7 [(0, .ref (ha 0)), (1, .int n0), (2, .int v2_14), (3, .int v3_13)] → W p l e ({ frames := 3, cells := 0, slots := 0, locals := 80 } : Room) s m AR below meth c H locs 0 0 QQ (F0 m 60 ls [])) ?_ _ _ _ _ _ _ h _ _ hP hD hS _ (lv_sub hl [2, 3, 1, 0] rfl)
      intro k_60 v3_13 v2_14 pn_15 pm_16 pd_17 J_60 h H locs hP hD hS ls hl
      refine lv_iload_n hx hb d_Mo_determinant_60 rfl (lv_at hl 3 rfl) ?_
      refine lv_iload_n hx hb d_Mo_determinant_61 rfl (lv_at hl 1 rfl) ?_
      refine lv_icmp_ge (tgt := 401) hx hb d_Mo_determinant_62 (by decide) (fun c_18 => ?_) (fun c_18 => ?_)
      · replace h := ck_if_t h c_18
        exact J_401 _ _ _ _ h _ _ hP hD hS _ (lv_sub hl [0, 1, 2] rfl)
      · replace h := ck_if_f h c_18
        refine lv_iload_n hx hb d_Mo_determinant_65 rfl (lv_at hl 3 rfl) ?_
        refine lv_istore (lv' := [(4, .int v3_13), (0, .ref (ha 0)), (1, .int n0), (2, .int v2_14), (3, .int v3_13)]) hx hb d_Mo_determinant_66 hl (by decide) rfl (fun ls hl => ?_)
        refine ck_jn_W h (fun k' => ∀ (v4_19 : Int32), k' v4_19 = some r → ∀ (H : Heap) (locs : List Loc), va_P (dC, dI) cl_all (xw cI cJ cB cZ cN ha NA m_rows m_columns m_prime m_small m_pivots m_freeRows m_freeColumns m_smallMinor m_fields m_rowCounts m_elements m_numbers m_known m_ranks m_rankOf m_signOf m_order m_sizes m_coefficients m_choices m_sorted ++ po cI NA ND pn_15 pm_16 pd_17) H → va_D A (xw cI cJ cB cZ cN ha NA m_rows m_columns m_prime m_small m_pivots m_freeRows m_freeColumns m_smallMinor m_fields m_rowCounts m_elements m_numbers m_known m_ranks m_rankOf m_signOf m_order m_sizes m_coefficients m_choices m_sorted ++ po cI NA ND pn_15 pm_16 pd_17) → va_S A s.heap H locs → ∀ ls : Array Slot, lv_has ls 7 [(0, .ref (ha 0)), (1, .int n0), (2, .int v2_14), (3, .int v3_13), (4, .int v4_19)] → W p l e ({ frames := 3, cells := 0, slots := 0, locals := 80 } : Room) s m AR below meth c H locs 0 0 QQ (F0 m 98 ls [])) ?_ ?_
        · intro v4_19 h H locs hP hD hS ls hl
          refine lv_iload hx hb d_Mo_determinant_98 (lv_at hl 4 rfl) ?_
          refine lv_iload_n hx hb d_Mo_determinant_100 rfl (lv_at hl 1 rfl) ?_
          refine lv_icmp_ne (tgt := 106) hx hb d_Mo_determinant_101 (by decide) (fun c_20 => ?_) (fun c_20 => ?_)
          · replace h := ck_if_f h c_20
            refine lv_iconst (v := 0) hx hb d_Mo_determinant_106 (by decide) ?_
            refine lv_istore (lv' := [(5, .int 0), (0, .ref (ha 0)), (1, .int n0), (2, .int v2_14), (3, .int v3_13), (4, .int v4_19)]) hx hb d_Mo_determinant_107 hl (by decide) rfl (fun ls hl => ?_)
            refine ck_jn_W h (fun k' => ∀ (pn_21 : Nat → Int32) (pm_22 : Nat → Int32) (pd_23 : Nat → Nat → Int32), k' pn_21 pm_22 pd_23 = some r → ∀ (H : Heap) (locs : List Loc), va_P (dC, dI) cl_all (xw cI cJ cB cZ cN ha NA m_rows m_columns m_prime m_small m_pivots m_freeRows m_freeColumns m_smallMinor m_fields m_rowCounts m_elements m_numbers m_known m_ranks m_rankOf m_signOf m_order m_sizes m_coefficients m_choices m_sorted ++ po cI NA ND pn_21 pm_22 pd_23) H → va_D A (xw cI cJ cB cZ cN ha NA m_rows m_columns m_prime m_small m_pivots m_freeRows m_freeColumns m_smallMinor m_fields m_rowCounts m_elements m_numbers m_known m_ranks m_rankOf m_signOf m_order m_sizes m_coefficients m_choices m_sorted ++ po cI NA ND pn_21 pm_22 pd_23) → va_S A s.heap H locs → ∀ ls : Array Slot, lv_has ls 7 [(0, .ref (ha 0)), (1, .int n0), (2, .int v2_14), (3, .int v3_13), (4, .int v4_19)] → W p l e ({ frames := 3, cells := 0, slots := 0, locals := 80 } : Room) s m AR below meth c H locs 0 0 QQ (F0 m 194 ls [])) ?_ ?_
            · intro pn_21 pm_22 pd_23 h H locs hP hD hS ls hl
              refine lv_iload hx hb d_Mo_determinant_194 (lv_at hl 4 rfl) ?_
              refine lv_iload_n hx hb d_Mo_determinant_196 rfl (lv_at hl 3 rfl) ?_
              refine ck_jn_W h (fun k' => ∀ (s0_24 : Int32), k' s0_24 = some r → ∀ (H : Heap) (locs : List Loc), va_P (dC, dI) cl_all (xw cI cJ cB cZ cN ha NA m_rows m_columns m_prime m_small m_pivots m_freeRows m_freeColumns m_smallMinor m_fields m_rowCounts m_elements m_numbers m_known m_ranks m_rankOf m_signOf m_order m_sizes m_coefficients m_choices m_sorted ++ po cI NA ND pn_21 pm_22 pd_23) H → va_D A (xw cI cJ cB cZ cN ha NA m_rows m_columns m_prime m_small m_pivots m_freeRows m_freeColumns m_smallMinor m_fields m_rowCounts m_elements m_numbers m_known m_ranks m_rankOf m_signOf m_order m_sizes m_coefficients m_choices m_sorted ++ po cI NA ND pn_21 pm_22 pd_23) → va_S A s.heap H locs → ∀ ls : Array Slot, lv_has ls 7 [(0, .ref (ha 0)), (1, .int n0), (3, .int v3_13)] → W p l e ({ frames := 3, cells := 0, slots := 0, locals := 80 } : Room) s m AR below meth c H locs 0 0 QQ (F0 m 206 ls [.int s0_24])) ?_ ?_
              · intro s0_24 h H locs hP hD hS ls hl
                refine lv_istore_n (lv' := [(2, .int s0_24), (0, .ref (ha 0)), (1, .int n0), (3, .int v3_13)]) hx hb d_Mo_determinant_206 rfl hl (by decide) rfl (fun ls hl => ?_)
                refine lv_iload_n hx hb d_Mo_determinant_207 rfl (lv_at hl 3 rfl) ?_
                refine lv_iconst (v := 1) hx hb d_Mo_determinant_208 (by decide) ?_
                refine lv_iadd hx hb d_Mo_determinant_209 ?_
                refine lv_topi (fun x_25 ex_25 => ?_)
                replace h := ck_nm_s h ex_25
                refine lv_istore (lv' := [(5, .int x_25), (2, .int s0_24), (0, .ref (ha 0)), (1, .int n0), (3, .int v3_13)]) hx hb d_Mo_determinant_210 hl (by decide) rfl (fun ls hl => ?_)
                refine ck_jn_W h (fun k' => ∀ (pn_26 : Nat → Int32) (pm_27 : Nat → Int32) (pd_28 : Nat → Nat → Int32), k' pn_26 pm_27 pd_28 = some r → ∀ (H : Heap) (locs : List Loc), va_P (dC, dI) cl_all (xw cI cJ cB cZ cN ha NA m_rows m_columns m_prime m_small m_pivots m_freeRows m_freeColumns m_smallMinor m_fields m_rowCounts m_elements m_numbers m_known m_ranks m_rankOf m_signOf m_order m_sizes m_coefficients m_choices m_sorted ++ po cI NA ND pn_26 pm_27 pd_28) H → va_D A (xw cI cJ cB cZ cN ha NA m_rows m_columns m_prime m_small m_pivots m_freeRows m_freeColumns m_smallMinor m_fields m_rowCounts m_elements m_numbers m_known m_ranks m_rankOf m_signOf m_order m_sizes m_coefficients m_choices m_sorted ++ po cI NA ND pn_26 pm_27 pd_28) → va_S A s.heap H locs → ∀ ls : Array Slot, lv_has ls 7 [(0, .ref (ha 0)), (1, .int n0), (2, .int s0_24), (3, .int v3_13)] → W p l e ({ frames := 3, cells := 0, slots := 0, locals := 80 } : Room) s m AR below meth c H locs 0 0 QQ (F0 m 395 ls [])) ?_ ?_
                · intro pn_26 pm_27 pd_28 h H locs hP hD hS ls hl
                  obtain ⟨x_29, ex_29⟩ : ∃ y : Int32, y = v3_13 + 1 := ⟨_, rfl⟩
                  replace h := ck_nm_s h ex_29
                  refine lv_iinc (v := x_29) (lv' := [(3, .int x_29), (0, .ref (ha 0)), (1, .int n0), (2, .int s0_24)]) hx hb d_Mo_determinant_395 hl (k := 3) rfl (by rw [ex_29]; rfl) (by decide) rfl (fun ls hl => ?_)
                  refine lv_goto (tgt := 60) hx hb d_Mo_determinant_398 (by decide) ?_
                  exact J_60 _ _ _ _ _ h _ _ hP hD hS _ (lv_sub hl [1, 2, 3, 0] rfl)
                · intro k_395 J_395 h
                  refine lo4_W (r := r) (fun (v5_30 : Int32) (pn_31 : Nat → Int32) (pm_32 : Nat → Int32) (pd_33 : Nat → Nat → Int32) => ∀ (H : Heap) (locs : List Loc), va_P (dC, dI) cl_all (xw cI cJ cB cZ cN ha NA m_rows m_columns m_prime m_small m_pivots m_freeRows m_freeColumns m_smallMinor m_fields m_rowCounts m_elements m_numbers m_known m_ranks m_rankOf m_signOf m_order m_sizes m_coefficients m_choices m_sorted ++ po cI NA ND pn_31 pm_32 pd_33) H → va_D A (xw cI cJ cB cZ cN ha NA m_rows m_columns m_prime m_small m_pivots m_freeRows m_freeColumns m_smallMinor m_fields m_rowCounts m_elements m_numbers m_known m_ranks m_rankOf m_signOf m_order m_sizes m_coefficients m_choices m_sorted ++ po cI NA ND pn_31 pm_32 pd_33) → va_S A s.heap H locs → ∀ ls : Array Slot, lv_has ls 7 [(0, .ref (ha 0)), (1, .int n0), (2, .int s0_24), (3, .int v3_13), (5, .int v5_30)] → W p l e ({ frames := 3, cells := 0, slots := 0, locals := 80 } : Room) s m AR below meth c H locs 0 0 QQ (F0 m 212 ls [])) ?_ _ _ _ _ _ h _ _ hP hD hS _ (lv_sub hl [2, 3, 1, 4, 0] rfl)
                  intro k_212 v5_30 pn_31 pm_32 pd_33 J_212 h H locs hP hD hS ls hl
                  refine lv_iload hx hb d_Mo_determinant_212 (lv_at hl 4 rfl) ?_
                  refine lv_iload_n hx hb d_Mo_determinant_214 rfl (lv_at hl 1 rfl) ?_
                  refine lv_icmp_ge (tgt := 395) hx hb d_Mo_determinant_215 (by decide) (fun c_34 => ?_) (fun c_34 => ?_)
                  · replace h := ck_if_t h c_34
                    exact J_395 _ _ _ h _ _ hP hD hS _ (lv_sub hl [0, 1, 2, 3] rfl)
                  · replace h := ck_if_f h c_34
                    refine lv_iload_n hx hb d_Mo_determinant_218 rfl (lv_at hl 3 rfl) ?_
                    refine lv_iconst (v := 1) hx hb d_Mo_determinant_219 (by decide) ?_
                    refine lv_iadd hx hb d_Mo_determinant_220 ?_
                    refine lv_topi (fun x_35 ex_35 => ?_)
                    replace h := ck_nm_s h ex_35
                    refine lv_istore (lv' := [(6, .int x_35), (0, .ref (ha 0)), (1, .int n0), (2, .int s0_24), (3, .int v3_13), (5, .int v5_30)]) hx hb d_Mo_determinant_221 hl (by decide) rfl (fun ls hl => ?_)
                    refine ck_jn_W h (fun k' => ∀ (pn_36 : Nat → Int32) (pm_37 : Nat → Int32) (pd_38 : Nat → Nat → Int32), k' pn_36 pm_37 pd_38 = some r → ∀ (H : Heap) (locs : List Loc), va_P (dC, dI) cl_all (xw cI cJ cB cZ cN ha NA m_rows m_columns m_prime m_small m_pivots m_freeRows m_freeColumns m_smallMinor m_fields m_rowCounts m_elements m_numbers m_known m_ranks m_rankOf m_signOf m_order m_sizes m_coefficients m_choices m_sorted ++ po cI NA ND pn_36 pm_37 pd_38) H → va_D A (xw cI cJ cB cZ cN ha NA m_rows m_columns m_prime m_small m_pivots m_freeRows m_freeColumns m_smallMinor m_fields m_rowCounts m_elements m_numbers m_known m_ranks m_rankOf m_signOf m_order m_sizes m_coefficients m_choices m_sorted ++ po cI NA ND pn_36 pm_37 pd_38) → va_S A s.heap H locs → ∀ ls : Array Slot, lv_has ls 7 [(0, .ref (ha 0)), (1, .int n0), (2, .int s0_24), (3, .int v3_13), (5, .int v5_30)] → W p l e ({ frames := 3, cells := 0, slots := 0, locals := 80 } : Room) s m AR below meth c H locs 0 0 QQ (F0 m 389 ls [])) ?_ ?_
                    · intro pn_36 pm_37 pd_38 h H locs hP hD hS ls hl
                      obtain ⟨x_39, ex_39⟩ : ∃ y : Int32, y = v5_30 + 1 := ⟨_, rfl⟩
                      replace h := ck_nm_s h ex_39
                      refine lv_iinc (v := x_39) (lv' := [(5, .int x_39), (0, .ref (ha 0)), (1, .int n0), (2, .int s0_24), (3, .int v3_13)]) hx hb d_Mo_determinant_389 hl (k := 4) rfl (by rw [ex_39]; rfl) (by decide) rfl (fun ls hl => ?_)
                      refine lv_goto (tgt := 212) hx hb d_Mo_determinant_392 (by decide) ?_
                      exact J_212 _ _ _ _ h _ _ hP hD hS _ (lv_sub hl [1, 2, 3, 4, 0] rfl)
                    · intro k_389 J_389 h
                      refine lo4_W (r := r) (fun (v6_40 : Int32) (pn_41 : Nat → Int32) (pm_42 : Nat → Int32) (pd_43 : Nat → Nat → Int32) => ∀ (H : Heap) (locs : List Loc), va_P (dC, dI) cl_all (xw cI cJ cB cZ cN ha NA m_rows m_columns m_prime m_small m_pivots m_freeRows m_freeColumns m_smallMinor m_fields m_rowCounts m_elements m_numbers m_known m_ranks m_rankOf m_signOf m_order m_sizes m_coefficients m_choices m_sorted ++ po cI NA ND pn_41 pm_42 pd_43) H → va_D A (xw cI cJ cB cZ cN ha NA m_rows m_columns m_prime m_small m_pivots m_freeRows m_freeColumns m_smallMinor m_fields m_rowCounts m_elements m_numbers m_known m_ranks m_rankOf m_signOf m_order m_sizes m_coefficients m_choices m_sorted ++ po cI NA ND pn_41 pm_42 pd_43) → va_S A s.heap H locs → ∀ ls : Array Slot, lv_has ls 7 [(0, .ref (ha 0)), (1, .int n0), (2, .int s0_24), (3, .int v3_13), (5, .int v5_30), (6, .int v6_40)] → W p l e ({ frames := 3, cells := 0, slots := 0, locals := 80 } : Room) s m AR below meth c H locs 0 0 QQ (F0 m 223 ls [])) ?_ _ _ _ _ _ h _ _ hP hD hS _ (lv_sub hl [1, 2, 3, 4, 5, 0] rfl)
                      intro k_223 v6_40 pn_41 pm_42 pd_43 J_223 h H locs hP hD hS ls hl
                      refine lv_iload hx hb d_Mo_determinant_223 (lv_at hl 5 rfl) ?_
                      refine lv_iload_n hx hb d_Mo_determinant_225 rfl (lv_at hl 1 rfl) ?_
                      refine lv_icmp_ge (tgt := 389) hx hb d_Mo_determinant_226 (by decide) (fun c_44 => ?_) (fun c_44 => ?_)
                      · replace h := ck_if_t h c_44
                        exact J_389 _ _ _ h _ _ hP hD hS _ (lv_sub hl [0, 1, 2, 3, 4] rfl)
                      · replace h := ck_if_f h c_44
                        refine lv_aload_n hx hb d_Mo_determinant_229 rfl (lv_at hl 0 rfl) ?_
                        refine va_get (D := (dC, dI)) (ci := 6) (v := .ref (NA 192)) (C := "BasisWalkModel") (T := T_Mo) (N := 31) hx hb hts iw1 hown hK hP 0 rfl rfl 0 (by decide) fl2 (fun _ h9 => h9) rfl d_Mo_determinant_230 ?_
                        refine lv_aload_n hx hb d_Mo_determinant_233 rfl (lv_at hl 0 rfl) ?_
                        refine va_get (D := (dC, dI)) (ci := 6) (v := .ref (ha 6)) (C := "BasisWalkModel") (T := T_Mo) (N := 31) hx hb hts iw1 hown hK hP 0 rfl rfl 16 (by decide) fl0 (fun _ h9 => h9) rfl d_Mo_determinant_234 ?_
                        refine lv_bipush (v := 6) hx hb d_Mo_determinant_237 (by decide) ?_
                        refine lv_iload hx hb d_Mo_determinant_239 (lv_at hl 4 rfl) ?_
                        refine lv_imul hx hb d_Mo_determinant_241 ?_
                        refine lv_iload hx hb d_Mo_determinant_242 (lv_at hl 5 rfl) ?_
                        refine lv_iadd hx hb d_Mo_determinant_244 ?_
                        obtain ⟨g_45, h⟩ := ck_in_s h
                        refine va_aldq hx hb hK hP 6 5 rfl rfl g_45 d_Mo_determinant_245 ?_
                        obtain ⟨kp_46, ekp_46⟩ : ∃ y : Nat, y = (156 + ((6 * v5_30) + v6_40).toNatClampNeg) := ⟨_, rfl⟩
                        replace h := ck_nm_s h ekp_46
                        have hkp_46 : kp_46 < 200 := by have q9 := vp_lt g_45; omega
                        refine W.eq (g2 := F0 m 246 ls [.ref (NA kp_46), .ref (NA 192)]) (by rw [ekp_46]; rfl) ?_
                        refine lv_aload_n hx hb d_Mo_determinant_246 rfl (lv_at hl 0 rfl) ?_
                        refine va_get (D := (dC, dI)) (ci := 6) (v := .ref (ha 6)) (C := "BasisWalkModel") (T := T_Mo) (N := 31) hx hb hts iw1 hown hK hP 0 rfl rfl 16 (by decide) fl0 (fun _ h9 => h9) rfl d_Mo_determinant_247 ?_
                        refine lv_bipush (v := 6) hx hb d_Mo_determinant_250 (by decide) ?_
                        refine lv_iload_n hx hb d_Mo_determinant_252 rfl (lv_at hl 3 rfl) ?_
                        refine lv_imul hx hb d_Mo_determinant_253 ?_
                        refine lv_iload_n hx hb d_Mo_determinant_254 rfl (lv_at hl 3 rfl) ?_
                        refine lv_iadd hx hb d_Mo_determinant_255 ?_
                        obtain ⟨g_47, h⟩ := ck_in_s h
                        refine va_aldq hx hb hK hP 6 5 rfl rfl g_47 d_Mo_determinant_256 ?_
                        obtain ⟨kp_48, ekp_48⟩ : ∃ y : Nat, y = (156 + ((6 * v3_13) + v3_13).toNatClampNeg) := ⟨_, rfl⟩
                        replace h := ck_nm_s h ekp_48
                        have hkp_48 : kp_48 < 200 := by have q9 := vp_lt g_47; omega
                        refine W.eq (g2 := F0 m 257 ls [.ref (NA kp_48), .ref (NA kp_46), .ref (NA 192)]) (by rw [ekp_48]; rfl) ?_
                        obtain ⟨n_52, h⟩ := ck_p_s h
                        obtain ⟨u_49, u_50, u_51, hc_56, h⟩ := ck_b3_s h
                        obtain ⟨hPc, hDc⟩ := po_cut (ks := [192, kp_46, kp_48]) (ks3 (by decide) hkp_46 hkp_48) (nd3 n_52) hP hD
                        have hPc : va_P (dC, dI) cl_all [(NA 192, .inr (5, [.ref (ND 192), .int (pn_41 192), .int (pm_42 192)])), (ND 192, .inl (cI, 160, .inl (pd_43 192))), (NA kp_46, .inr (5, [.ref (ND kp_46), .int (pn_41 kp_46), .int (pm_42 kp_46)])), (ND kp_46, .inl (cI, 160, .inl (pd_43 kp_46))), (NA kp_48, .inr (5, [.ref (ND kp_48), .int (pn_41 kp_48), .int (pm_42 kp_48)])), (ND kp_48, .inl (cI, 160, .inl (pd_43 kp_48)))] H := hPc
                        have hDc : va_D A [(NA 192, .inr (5, [.ref (ND 192), .int (pn_41 192), .int (pm_42 192)])), (ND 192, .inl (cI, 160, .inl (pd_43 192))), (NA kp_46, .inr (5, [.ref (ND kp_46), .int (pn_41 kp_46), .int (pm_42 kp_46)])), (ND kp_46, .inl (cI, 160, .inl (pd_43 kp_46))), (NA kp_48, .inr (5, [.ref (ND kp_48), .int (pn_41 kp_48), .int (pm_42 kp_48)])), (ND kp_48, .inl (cI, 160, .inl (pd_43 kp_48)))] := hDc
                        have hFc := pw_free hDc hS hA
                        refine va_callv (va_runV (As := [.ref (NA kp_46), .ref (NA kp_48)]) (rest := []) ⟨hx, hb, hml, hown, hts⟩ (c_N_product l dC dI cI cJ cB cZ cT cN H.size (NA 192) (NA kp_46) (NA kp_48) (ND 192) (ND kp_46) (ND kp_48) (pn_41 192) (pm_42 192) 160 (pd_43 192) (pn_41 kp_46) (pm_42 kp_46) 160 (pd_43 kp_46) (pn_41 kp_48) (pm_42 kp_48) 160 (pd_43 kp_48) _ hc_56) (cwV 2 hts (tb_V tw_522 tw_523 tw_524 tw_7 tw_525) rfl rfl rfl (by decide +kernel) ⟨Nat.le_of_ble_eq_true rfl, Nat.le_of_ble_eq_true rfl⟩) ⟨fun a U g mk q => by obtain ⟨q0, q1, qP, qK, qN, qD⟩ := q; exact ⟨q0, q1, qP, va_K.moved (u := U) (U := U.calling g mk a) (Vm.Alike.refl U.vm) qK, qN.same rfl, qD⟩, va_recv hK hPc (ci := 5) (q0 := 0) rfl rfl, fun U hU hW => ⟨rfl, by rw [hU], by rw [hU]; exact hPc, va_K.moved hW.alike hK, hN.warm hW, hDc.weaken (fun _ _ _ _ => trivial)⟩⟩ rfl rfl hl.1 rfl (lv_room (Nat.le_of_ble_eq_true rfl)) d_Mo_determinant_257 ⟨Nat.zero_le _, Nat.zero_le _⟩) hS (fun q _ h => hFc q h) hFc (fun u t H1 locs ht hvm hw hB hz1 hk1 hS => ?_)
                        replace hw := hw.symm
                        subst hw
                        obtain ⟨hP1, -, hD1⟩ := hB
                        rw [ht] at hP1
                        obtain ⟨pn_53, epn_53⟩ : ∃ y : Nat → Int32, y = (upd pn_41 192 u_49) := ⟨_, rfl⟩
                        replace h := ck_nm_s h epn_53
                        obtain ⟨pm_54, epm_54⟩ : ∃ y : Nat → Int32, y = (upd pm_42 192 u_50) := ⟨_, rfl⟩
                        replace h := ck_nm_s h epm_54
                        obtain ⟨pd_55, epd_55⟩ : ∃ y : Nat → Nat → Int32, y = (va_up pd_43 192 u_51) := ⟨_, rfl⟩
                        replace h := ck_nm_s h epd_55
                        have fq_57 : pn_53 192 = u_49 := by simp [epn_53, upd, va_up, n_52.1, Ne.symm n_52.1, n_52.2.1, Ne.symm n_52.2.1, n_52.2.2, Ne.symm n_52.2.2]
                        have fq_58 : pm_54 192 = u_50 := by simp [epm_54, upd, va_up, n_52.1, Ne.symm n_52.1, n_52.2.1, Ne.symm n_52.2.1, n_52.2.2, Ne.symm n_52.2.2]
                        have fq_59 : pd_55 192 = u_51 := by simp [epd_55, upd, va_up, n_52.1, Ne.symm n_52.1, n_52.2.1, Ne.symm n_52.2.1, n_52.2.2, Ne.symm n_52.2.2]
                        have fq_60 : pn_53 kp_46 = pn_41 kp_46 := by simp [epn_53, upd, va_up, n_52.1, Ne.symm n_52.1, n_52.2.1, Ne.symm n_52.2.1, n_52.2.2, Ne.symm n_52.2.2]
                        have fq_61 : pm_54 kp_46 = pm_42 kp_46 := by simp [epm_54, upd, va_up, n_52.1, Ne.symm n_52.1, n_52.2.1, Ne.symm n_52.2.1, n_52.2.2, Ne.symm n_52.2.2]
                        have fq_62 : pd_55 kp_46 = pd_43 kp_46 := by simp [epd_55, upd, va_up, n_52.1, Ne.symm n_52.1, n_52.2.1, Ne.symm n_52.2.1, n_52.2.2, Ne.symm n_52.2.2]
                        have fq_63 : pn_53 kp_48 = pn_41 kp_48 := by simp [epn_53, upd, va_up, n_52.1, Ne.symm n_52.1, n_52.2.1, Ne.symm n_52.2.1, n_52.2.2, Ne.symm n_52.2.2]
                        have fq_64 : pm_54 kp_48 = pm_42 kp_48 := by simp [epm_54, upd, va_up, n_52.1, Ne.symm n_52.1, n_52.2.1, Ne.symm n_52.2.1, n_52.2.2, Ne.symm n_52.2.2]
                        have fq_65 : pd_55 kp_48 = pd_43 kp_48 := by simp [epd_55, upd, va_up, n_52.1, Ne.symm n_52.1, n_52.2.1, Ne.symm n_52.2.1, n_52.2.2, Ne.symm n_52.2.2]
                        obtain ⟨hP, hD⟩ := po_back (ks := [192, kp_46, kp_48]) (pn' := pn_53) (pm' := pm_54) (pd' := pd_55) (ks3 (by decide) hkp_46 hkp_48) hP hD hk1 (by show va_P (dC, dI) cl_all [(NA 192, .inr (5, [.ref (ND 192), .int (pn_53 192), .int (pm_54 192)])), (ND 192, .inl (cI, 160, .inl (pd_55 192))), (NA kp_46, .inr (5, [.ref (ND kp_46), .int (pn_53 kp_46), .int (pm_54 kp_46)])), (ND kp_46, .inl (cI, 160, .inl (pd_55 kp_46))), (NA kp_48, .inr (5, [.ref (ND kp_48), .int (pn_53 kp_48), .int (pm_54 kp_48)])), (ND kp_48, .inl (cI, 160, .inl (pd_55 kp_48)))] H1; rw [fq_57, fq_58, fq_59, fq_60, fq_61, fq_62, fq_63, fq_64, fq_65]; exact hP1) (fun j hj => by simp only [List.mem_cons, List.not_mem_nil, or_false, not_or] at hj; exact ⟨by simp [epn_53, upd, va_up, hj], by simp [epm_54, upd, va_up, hj], by simp [epd_55, upd, va_up, hj]⟩)
                        generalize H1 = H at hP hS ⊢
                        have hP : va_P (dC, dI) cl_all (xw cI cJ cB cZ cN ha NA m_rows m_columns m_prime m_small m_pivots m_freeRows m_freeColumns m_smallMinor m_fields m_rowCounts m_elements m_numbers m_known m_ranks m_rankOf m_signOf m_order m_sizes m_coefficients m_choices m_sorted ++ po cI NA ND pn_53 pm_54 pd_55) H := hP
                        have hD : va_D A (xw cI cJ cB cZ cN ha NA m_rows m_columns m_prime m_small m_pivots m_freeRows m_freeColumns m_smallMinor m_fields m_rowCounts m_elements m_numbers m_known m_ranks m_rankOf m_signOf m_order m_sizes m_coefficients m_choices m_sorted ++ po cI NA ND pn_53 pm_54 pd_55) := hD
                        refine lv_aload_n hx hb d_Mo_determinant_260 rfl (lv_at hl 0 rfl) ?_
                        refine va_get (D := (dC, dI)) (ci := 6) (v := .ref (NA 193)) (C := "BasisWalkModel") (T := T_Mo) (N := 31) hx hb hts iw1 hown hK hP 0 rfl rfl 1 (by decide) fl3 (fun _ h9 => h9) rfl d_Mo_determinant_261 ?_
                        refine lv_aload_n hx hb d_Mo_determinant_264 rfl (lv_at hl 0 rfl) ?_
                        refine va_get (D := (dC, dI)) (ci := 6) (v := .ref (ha 6)) (C := "BasisWalkModel") (T := T_Mo) (N := 31) hx hb hts iw1 hown hK hP 0 rfl rfl 16 (by decide) fl0 (fun _ h9 => h9) rfl d_Mo_determinant_265 ?_
                        refine lv_bipush (v := 6) hx hb d_Mo_determinant_268 (by decide) ?_
                        refine lv_iload hx hb d_Mo_determinant_270 (lv_at hl 4 rfl) ?_
                        refine lv_imul hx hb d_Mo_determinant_272 ?_
                        refine lv_iload_n hx hb d_Mo_determinant_273 rfl (lv_at hl 3 rfl) ?_
                        refine lv_iadd hx hb d_Mo_determinant_274 ?_
                        obtain ⟨g_66, h⟩ := ck_in_s h
                        refine va_aldq hx hb hK hP 6 5 rfl rfl g_66 d_Mo_determinant_275 ?_
                        obtain ⟨kp_67, ekp_67⟩ : ∃ y : Nat, y = (156 + ((6 * v5_30) + v3_13).toNatClampNeg) := ⟨_, rfl⟩
                        replace h := ck_nm_s h ekp_67
                        have hkp_67 : kp_67 < 200 := by have q9 := vp_lt g_66; omega
                        refine W.eq (g2 := F0 m 276 ls [.ref (NA kp_67), .ref (NA 193)]) (by rw [ekp_67]; rfl) ?_
                        refine lv_aload_n hx hb d_Mo_determinant_276 rfl (lv_at hl 0 rfl) ?_
                        refine va_get (D := (dC, dI)) (ci := 6) (v := .ref (ha 6)) (C := "BasisWalkModel") (T := T_Mo) (N := 31) hx hb hts iw1 hown hK hP 0 rfl rfl 16 (by decide) fl0 (fun _ h9 => h9) rfl d_Mo_determinant_277 ?_
                        refine lv_bipush (v := 6) hx hb d_Mo_determinant_280 (by decide) ?_
                        refine lv_iload_n hx hb d_Mo_determinant_282 rfl (lv_at hl 3 rfl) ?_
                        refine lv_imul hx hb d_Mo_determinant_283 ?_
                        refine lv_iload hx hb d_Mo_determinant_284 (lv_at hl 5 rfl) ?_
                        refine lv_iadd hx hb d_Mo_determinant_286 ?_
                        obtain ⟨g_68, h⟩ := ck_in_s h
                        refine va_aldq hx hb hK hP 6 5 rfl rfl g_68 d_Mo_determinant_287 ?_
                        obtain ⟨kp_69, ekp_69⟩ : ∃ y : Nat, y = (156 + ((6 * v3_13) + v6_40).toNatClampNeg) := ⟨_, rfl⟩
                        replace h := ck_nm_s h ekp_69
                        have hkp_69 : kp_69 < 200 := by have q9 := vp_lt g_68; omega
                        refine W.eq (g2 := F0 m 288 ls [.ref (NA kp_69), .ref (NA kp_67), .ref (NA 193)]) (by rw [ekp_69]; rfl) ?_
                        obtain ⟨n_73, h⟩ := ck_p_s h
                        obtain ⟨u_70, u_71, u_72, hc_77, h⟩ := ck_b3_s h
                        obtain ⟨hPc, hDc⟩ := po_cut (ks := [193, kp_67, kp_69]) (ks3 (by decide) hkp_67 hkp_69) (nd3 n_73) hP hD
                        have hPc : va_P (dC, dI) cl_all [(NA 193, .inr (5, [.ref (ND 193), .int (pn_53 193), .int (pm_54 193)])), (ND 193, .inl (cI, 160, .inl (pd_55 193))), (NA kp_67, .inr (5, [.ref (ND kp_67), .int (pn_53 kp_67), .int (pm_54 kp_67)])), (ND kp_67, .inl (cI, 160, .inl (pd_55 kp_67))), (NA kp_69, .inr (5, [.ref (ND kp_69), .int (pn_53 kp_69), .int (pm_54 kp_69)])), (ND kp_69, .inl (cI, 160, .inl (pd_55 kp_69)))] H := hPc
                        have hDc : va_D A [(NA 193, .inr (5, [.ref (ND 193), .int (pn_53 193), .int (pm_54 193)])), (ND 193, .inl (cI, 160, .inl (pd_55 193))), (NA kp_67, .inr (5, [.ref (ND kp_67), .int (pn_53 kp_67), .int (pm_54 kp_67)])), (ND kp_67, .inl (cI, 160, .inl (pd_55 kp_67))), (NA kp_69, .inr (5, [.ref (ND kp_69), .int (pn_53 kp_69), .int (pm_54 kp_69)])), (ND kp_69, .inl (cI, 160, .inl (pd_55 kp_69)))] := hDc
                        have hFc := pw_free hDc hS hA
                        refine va_callv (va_runV (As := [.ref (NA kp_67), .ref (NA kp_69)]) (rest := []) ⟨hx, hb, hml, hown, hts⟩ (c_N_product l dC dI cI cJ cB cZ cT cN H.size (NA 193) (NA kp_67) (NA kp_69) (ND 193) (ND kp_67) (ND kp_69) (pn_53 193) (pm_54 193) 160 (pd_55 193) (pn_53 kp_67) (pm_54 kp_67) 160 (pd_55 kp_67) (pn_53 kp_69) (pm_54 kp_69) 160 (pd_55 kp_69) _ hc_77) (cwV 2 hts (tb_V tw_522 tw_523 tw_524 tw_7 tw_525) rfl rfl rfl (by decide +kernel) ⟨Nat.le_of_ble_eq_true rfl, Nat.le_of_ble_eq_true rfl⟩) ⟨fun a U g mk q => by obtain ⟨q0, q1, qP, qK, qN, qD⟩ := q; exact ⟨q0, q1, qP, va_K.moved (u := U) (U := U.calling g mk a) (Vm.Alike.refl U.vm) qK, qN.same rfl, qD⟩, va_recv hK hPc (ci := 5) (q0 := 0) rfl rfl, fun U hU hW => ⟨rfl, by rw [hU], by rw [hU]; exact hPc, va_K.moved hW.alike hK, hN.warm hW, hDc.weaken (fun _ _ _ _ => trivial)⟩⟩ rfl rfl hl.1 rfl (lv_room (Nat.le_of_ble_eq_true rfl)) d_Mo_determinant_288 ⟨Nat.zero_le _, Nat.zero_le _⟩) hS (fun q _ h => hFc q h) hFc (fun u t H1 locs ht hvm hw hB hz1 hk1 hS => ?_)
                        replace hw := hw.symm
                        subst hw
                        obtain ⟨hP1, -, hD1⟩ := hB
                        rw [ht] at hP1
                        obtain ⟨pn_74, epn_74⟩ : ∃ y : Nat → Int32, y = (upd pn_53 193 u_70) := ⟨_, rfl⟩
                        replace h := ck_nm_s h epn_74
                        obtain ⟨pm_75, epm_75⟩ : ∃ y : Nat → Int32, y = (upd pm_54 193 u_71) := ⟨_, rfl⟩
                        replace h := ck_nm_s h epm_75
                        obtain ⟨pd_76, epd_76⟩ : ∃ y : Nat → Nat → Int32, y = (va_up pd_55 193 u_72) := ⟨_, rfl⟩
                        replace h := ck_nm_s h epd_76
                        have fq_78 : pn_74 193 = u_70 := by simp [epn_74, upd, va_up, n_73.1, Ne.symm n_73.1, n_73.2.1, Ne.symm n_73.2.1, n_73.2.2, Ne.symm n_73.2.2]
                        have fq_79 : pm_75 193 = u_71 := by simp [epm_75, upd, va_up, n_73.1, Ne.symm n_73.1, n_73.2.1, Ne.symm n_73.2.1, n_73.2.2, Ne.symm n_73.2.2]
                        have fq_80 : pd_76 193 = u_72 := by simp [epd_76, upd, va_up, n_73.1, Ne.symm n_73.1, n_73.2.1, Ne.symm n_73.2.1, n_73.2.2, Ne.symm n_73.2.2]
                        have fq_81 : pn_74 kp_67 = pn_53 kp_67 := by simp [epn_74, upd, va_up, n_73.1, Ne.symm n_73.1, n_73.2.1, Ne.symm n_73.2.1, n_73.2.2, Ne.symm n_73.2.2]
                        have fq_82 : pm_75 kp_67 = pm_54 kp_67 := by simp [epm_75, upd, va_up, n_73.1, Ne.symm n_73.1, n_73.2.1, Ne.symm n_73.2.1, n_73.2.2, Ne.symm n_73.2.2]
                        have fq_83 : pd_76 kp_67 = pd_55 kp_67 := by simp [epd_76, upd, va_up, n_73.1, Ne.symm n_73.1, n_73.2.1, Ne.symm n_73.2.1, n_73.2.2, Ne.symm n_73.2.2]
                        have fq_84 : pn_74 kp_69 = pn_53 kp_69 := by simp [epn_74, upd, va_up, n_73.1, Ne.symm n_73.1, n_73.2.1, Ne.symm n_73.2.1, n_73.2.2, Ne.symm n_73.2.2]
                        have fq_85 : pm_75 kp_69 = pm_54 kp_69 := by simp [epm_75, upd, va_up, n_73.1, Ne.symm n_73.1, n_73.2.1, Ne.symm n_73.2.1, n_73.2.2, Ne.symm n_73.2.2]
                        have fq_86 : pd_76 kp_69 = pd_55 kp_69 := by simp [epd_76, upd, va_up, n_73.1, Ne.symm n_73.1, n_73.2.1, Ne.symm n_73.2.1, n_73.2.2, Ne.symm n_73.2.2]
                        obtain ⟨hP, hD⟩ := po_back (ks := [193, kp_67, kp_69]) (pn' := pn_74) (pm' := pm_75) (pd' := pd_76) (ks3 (by decide) hkp_67 hkp_69) hP hD hk1 (by show va_P (dC, dI) cl_all [(NA 193, .inr (5, [.ref (ND 193), .int (pn_74 193), .int (pm_75 193)])), (ND 193, .inl (cI, 160, .inl (pd_76 193))), (NA kp_67, .inr (5, [.ref (ND kp_67), .int (pn_74 kp_67), .int (pm_75 kp_67)])), (ND kp_67, .inl (cI, 160, .inl (pd_76 kp_67))), (NA kp_69, .inr (5, [.ref (ND kp_69), .int (pn_74 kp_69), .int (pm_75 kp_69)])), (ND kp_69, .inl (cI, 160, .inl (pd_76 kp_69)))] H1; rw [fq_78, fq_79, fq_80, fq_81, fq_82, fq_83, fq_84, fq_85, fq_86]; exact hP1) (fun j hj => by simp only [List.mem_cons, List.not_mem_nil, or_false, not_or] at hj; exact ⟨by simp [epn_74, upd, va_up, hj], by simp [epm_75, upd, va_up, hj], by simp [epd_76, upd, va_up, hj]⟩)
                        generalize H1 = H at hP hS ⊢
                        have hP : va_P (dC, dI) cl_all (xw cI cJ cB cZ cN ha NA m_rows m_columns m_prime m_small m_pivots m_freeRows m_freeColumns m_smallMinor m_fields m_rowCounts m_elements m_numbers m_known m_ranks m_rankOf m_signOf m_order m_sizes m_coefficients m_choices m_sorted ++ po cI NA ND pn_74 pm_75 pd_76) H := hP
                        have hD : va_D A (xw cI cJ cB cZ cN ha NA m_rows m_columns m_prime m_small m_pivots m_freeRows m_freeColumns m_smallMinor m_fields m_rowCounts m_elements m_numbers m_known m_ranks m_rankOf m_signOf m_order m_sizes m_coefficients m_choices m_sorted ++ po cI NA ND pn_74 pm_75 pd_76) := hD
                        refine lv_aload_n hx hb d_Mo_determinant_291 rfl (lv_at hl 0 rfl) ?_
                        refine va_get (D := (dC, dI)) (ci := 6) (v := .ref (NA 194)) (C := "BasisWalkModel") (T := T_Mo) (N := 31) hx hb hts iw1 hown hK hP 0 rfl rfl 2 (by decide) fl4 (fun _ h9 => h9) rfl d_Mo_determinant_292 ?_
                        refine lv_aload_n hx hb d_Mo_determinant_295 rfl (lv_at hl 0 rfl) ?_
                        refine va_get (D := (dC, dI)) (ci := 6) (v := .ref (NA 192)) (C := "BasisWalkModel") (T := T_Mo) (N := 31) hx hb hts iw1 hown hK hP 0 rfl rfl 0 (by decide) fl2 (fun _ h9 => h9) rfl d_Mo_determinant_296 ?_
                        refine lv_aload_n hx hb d_Mo_determinant_299 rfl (lv_at hl 0 rfl) ?_
                        refine va_get (D := (dC, dI)) (ci := 6) (v := .ref (NA 193)) (C := "BasisWalkModel") (T := T_Mo) (N := 31) hx hb hts iw1 hown hK hP 0 rfl rfl 1 (by decide) fl3 (fun _ h9 => h9) rfl d_Mo_determinant_300 ?_
                        obtain ⟨n_90, h⟩ := ck_p_s h
                        obtain ⟨u_87, u_88, u_89, hc_94, h⟩ := ck_b3_s h
                        obtain ⟨hPc, hDc⟩ := po_cut (ks := [194, 192, 193]) (ks3 (by decide) (by decide) (by decide)) (nd3 n_90) hP hD
                        have hPc : va_P (dC, dI) cl_all [(NA 194, .inr (5, [.ref (ND 194), .int (pn_74 194), .int (pm_75 194)])), (ND 194, .inl (cI, 160, .inl (pd_76 194))), (NA 192, .inr (5, [.ref (ND 192), .int (pn_74 192), .int (pm_75 192)])), (ND 192, .inl (cI, 160, .inl (pd_76 192))), (NA 193, .inr (5, [.ref (ND 193), .int (pn_74 193), .int (pm_75 193)])), (ND 193, .inl (cI, 160, .inl (pd_76 193)))] H := hPc
                        have hDc : va_D A [(NA 194, .inr (5, [.ref (ND 194), .int (pn_74 194), .int (pm_75 194)])), (ND 194, .inl (cI, 160, .inl (pd_76 194))), (NA 192, .inr (5, [.ref (ND 192), .int (pn_74 192), .int (pm_75 192)])), (ND 192, .inl (cI, 160, .inl (pd_76 192))), (NA 193, .inr (5, [.ref (ND 193), .int (pn_74 193), .int (pm_75 193)])), (ND 193, .inl (cI, 160, .inl (pd_76 193)))] := hDc
                        have hFc := pw_free hDc hS hA
                        refine va_callv (va_runV (As := [.ref (NA 192), .ref (NA 193)]) (rest := []) ⟨hx, hb, hml, hown, hts⟩ (c_N_less l dC dI cI cJ cB cZ cT cN H.size (NA 194) (NA 192) (NA 193) (ND 194) (ND 192) (ND 193) (pn_74 194) (pm_75 194) 160 (pd_76 194) (pn_74 192) (pm_75 192) 160 (pd_76 192) (pn_74 193) (pm_75 193) 160 (pd_76 193) _ hc_94) (cwV 2 hts (tb_V tw_530 tw_531 tw_532 tw_7 tw_533) rfl rfl rfl (by decide +kernel) ⟨Nat.le_of_ble_eq_true rfl, Nat.le_of_ble_eq_true rfl⟩) ⟨fun a U g mk q => by obtain ⟨q0, q1, qP, qK, qN, qD⟩ := q; exact ⟨q0, q1, qP, va_K.moved (u := U) (U := U.calling g mk a) (Vm.Alike.refl U.vm) qK, qN.same rfl, qD⟩, va_recv hK hPc (ci := 5) (q0 := 0) rfl rfl, fun U hU hW => ⟨rfl, by rw [hU], by rw [hU]; exact hPc, va_K.moved hW.alike hK, hN.warm hW, hDc.weaken (fun _ _ _ _ => trivial)⟩⟩ rfl rfl hl.1 rfl (lv_room (Nat.le_of_ble_eq_true rfl)) d_Mo_determinant_303 ⟨Nat.zero_le _, Nat.zero_le _⟩) hS (fun q _ h => hFc q h) hFc (fun u t H1 locs ht hvm hw hB hz1 hk1 hS => ?_)
                        replace hw := hw.symm
                        subst hw
                        obtain ⟨hP1, -, hD1⟩ := hB
                        rw [ht] at hP1
                        obtain ⟨pn_91, epn_91⟩ : ∃ y : Nat → Int32, y = (upd pn_74 194 u_87) := ⟨_, rfl⟩
                        replace h := ck_nm_s h epn_91
                        obtain ⟨pm_92, epm_92⟩ : ∃ y : Nat → Int32, y = (upd pm_75 194 u_88) := ⟨_, rfl⟩
                        replace h := ck_nm_s h epm_92
                        obtain ⟨pd_93, epd_93⟩ : ∃ y : Nat → Nat → Int32, y = (va_up pd_76 194 u_89) := ⟨_, rfl⟩
                        replace h := ck_nm_s h epd_93
                        have fq_95 : pn_91 194 = u_87 := by simp [epn_91, upd, va_up, n_90.1, Ne.symm n_90.1, n_90.2.1, Ne.symm n_90.2.1, n_90.2.2, Ne.symm n_90.2.2]
                        have fq_96 : pm_92 194 = u_88 := by simp [epm_92, upd, va_up, n_90.1, Ne.symm n_90.1, n_90.2.1, Ne.symm n_90.2.1, n_90.2.2, Ne.symm n_90.2.2]
                        have fq_97 : pd_93 194 = u_89 := by simp [epd_93, upd, va_up, n_90.1, Ne.symm n_90.1, n_90.2.1, Ne.symm n_90.2.1, n_90.2.2, Ne.symm n_90.2.2]
                        have fq_98 : pn_91 192 = pn_74 192 := by simp [epn_91, upd, va_up, n_90.1, Ne.symm n_90.1, n_90.2.1, Ne.symm n_90.2.1, n_90.2.2, Ne.symm n_90.2.2]
                        have fq_99 : pm_92 192 = pm_75 192 := by simp [epm_92, upd, va_up, n_90.1, Ne.symm n_90.1, n_90.2.1, Ne.symm n_90.2.1, n_90.2.2, Ne.symm n_90.2.2]
                        have fq_100 : pd_93 192 = pd_76 192 := by simp [epd_93, upd, va_up, n_90.1, Ne.symm n_90.1, n_90.2.1, Ne.symm n_90.2.1, n_90.2.2, Ne.symm n_90.2.2]
                        have fq_101 : pn_91 193 = pn_74 193 := by simp [epn_91, upd, va_up, n_90.1, Ne.symm n_90.1, n_90.2.1, Ne.symm n_90.2.1, n_90.2.2, Ne.symm n_90.2.2]
                        have fq_102 : pm_92 193 = pm_75 193 := by simp [epm_92, upd, va_up, n_90.1, Ne.symm n_90.1, n_90.2.1, Ne.symm n_90.2.1, n_90.2.2, Ne.symm n_90.2.2]
                        have fq_103 : pd_93 193 = pd_76 193 := by simp [epd_93, upd, va_up, n_90.1, Ne.symm n_90.1, n_90.2.1, Ne.symm n_90.2.1, n_90.2.2, Ne.symm n_90.2.2]
                        obtain ⟨hP, hD⟩ := po_back (ks := [194, 192, 193]) (pn' := pn_91) (pm' := pm_92) (pd' := pd_93) (ks3 (by decide) (by decide) (by decide)) hP hD hk1 (by show va_P (dC, dI) cl_all [(NA 194, .inr (5, [.ref (ND 194), .int (pn_91 194), .int (pm_92 194)])), (ND 194, .inl (cI, 160, .inl (pd_93 194))), (NA 192, .inr (5, [.ref (ND 192), .int (pn_91 192), .int (pm_92 192)])), (ND 192, .inl (cI, 160, .inl (pd_93 192))), (NA 193, .inr (5, [.ref (ND 193), .int (pn_91 193), .int (pm_92 193)])), (ND 193, .inl (cI, 160, .inl (pd_93 193)))] H1; rw [fq_95, fq_96, fq_97, fq_98, fq_99, fq_100, fq_101, fq_102, fq_103]; exact hP1) (fun j hj => by simp only [List.mem_cons, List.not_mem_nil, or_false, not_or] at hj; exact ⟨by simp [epn_91, upd, va_up, hj], by simp [epm_92, upd, va_up, hj], by simp [epd_93, upd, va_up, hj]⟩)
                        generalize H1 = H at hP hS ⊢
                        have hP : va_P (dC, dI) cl_all (xw cI cJ cB cZ cN ha NA m_rows m_columns m_prime m_small m_pivots m_freeRows m_freeColumns m_smallMinor m_fields m_rowCounts m_elements m_numbers m_known m_ranks m_rankOf m_signOf m_order m_sizes m_coefficients m_choices m_sorted ++ po cI NA ND pn_91 pm_92 pd_93) H := hP
                        have hD : va_D A (xw cI cJ cB cZ cN ha NA m_rows m_columns m_prime m_small m_pivots m_freeRows m_freeColumns m_smallMinor m_fields m_rowCounts m_elements m_numbers m_known m_ranks m_rankOf m_signOf m_order m_sizes m_coefficients m_choices m_sorted ++ po cI NA ND pn_91 pm_92 pd_93) := hD
                        refine lv_iload_n hx hb d_Mo_determinant_306 rfl (lv_at hl 3 rfl) ?_
                        refine ck_jn_W h (fun k' => ∀ (pn_104 : Nat → Int32) (pm_105 : Nat → Int32) (pd_106 : Nat → Nat → Int32), k' pn_104 pm_105 pd_106 = some r → ∀ (H : Heap) (locs : List Loc), va_P (dC, dI) cl_all (xw cI cJ cB cZ cN ha NA m_rows m_columns m_prime m_small m_pivots m_freeRows m_freeColumns m_smallMinor m_fields m_rowCounts m_elements m_numbers m_known m_ranks m_rankOf m_signOf m_order m_sizes m_coefficients m_choices m_sorted ++ po cI NA ND pn_104 pm_105 pd_106) H → va_D A (xw cI cJ cB cZ cN ha NA m_rows m_columns m_prime m_small m_pivots m_freeRows m_freeColumns m_smallMinor m_fields m_rowCounts m_elements m_numbers m_known m_ranks m_rankOf m_signOf m_order m_sizes m_coefficients m_choices m_sorted ++ po cI NA ND pn_104 pm_105 pd_106) → va_S A s.heap H locs → ∀ ls : Array Slot, lv_has ls 7 [(0, .ref (ha 0)), (1, .int n0), (2, .int s0_24), (3, .int v3_13), (5, .int v5_30), (6, .int v6_40)] → W p l e ({ frames := 3, cells := 0, slots := 0, locals := 80 } : Room) s m AR below meth c H locs 0 0 QQ (F0 m 383 ls [])) ?_ ?_
                        · intro pn_104 pm_105 pd_106 h H locs hP hD hS ls hl
                          obtain ⟨x_107, ex_107⟩ : ∃ y : Int32, y = v6_40 + 1 := ⟨_, rfl⟩
                          replace h := ck_nm_s h ex_107
                          refine lv_iinc (v := x_107) (lv' := [(6, .int x_107), (0, .ref (ha 0)), (1, .int n0), (2, .int s0_24), (3, .int v3_13), (5, .int v5_30)]) hx hb d_Mo_determinant_383 hl (k := 5) rfl (by rw [ex_107]; rfl) (by decide) rfl (fun ls hl => ?_)
                          refine lv_goto (tgt := 223) hx hb d_Mo_determinant_386 (by decide) ?_
                          exact J_223 _ _ _ _ h _ _ hP hD hS _ (lv_sub hl [1, 2, 3, 4, 5, 0] rfl)
                        · intro k_383 J_383 h
                          refine lv_if_le (tgt := 363) hx hb d_Mo_determinant_307 (by decide) (fun c_108 => ?_) (fun c_108 => ?_)
                          · replace h := ck_if_t h c_108
                            refine lv_aload_n hx hb d_Mo_determinant_363 rfl (lv_at hl 0 rfl) ?_
                            refine va_get (D := (dC, dI)) (ci := 6) (v := .ref (ha 6)) (C := "BasisWalkModel") (T := T_Mo) (N := 31) hx hb hts iw1 hown hK hP 0 rfl rfl 16 (by decide) fl0 (fun _ h9 => h9) rfl d_Mo_determinant_364 ?_
                            refine lv_bipush (v := 6) hx hb d_Mo_determinant_367 (by decide) ?_
                            refine lv_iload hx hb d_Mo_determinant_369 (lv_at hl 4 rfl) ?_
                            refine lv_imul hx hb d_Mo_determinant_371 ?_
                            refine lv_iload hx hb d_Mo_determinant_372 (lv_at hl 5 rfl) ?_
                            refine lv_iadd hx hb d_Mo_determinant_374 ?_
                            obtain ⟨g_109, h⟩ := ck_in_s h
                            refine va_aldq hx hb hK hP 6 5 rfl rfl g_109 d_Mo_determinant_375 ?_
                            obtain ⟨kp_110, ekp_110⟩ : ∃ y : Nat, y = (156 + ((6 * v5_30) + v6_40).toNatClampNeg) := ⟨_, rfl⟩
                            replace h := ck_nm_s h ekp_110
                            have hkp_110 : kp_110 < 200 := by have q9 := vp_lt g_109; omega
                            refine W.eq (g2 := F0 m 376 ls [.ref (NA kp_110)]) (by rw [ekp_110]; rfl) ?_
                            refine lv_aload_n hx hb d_Mo_determinant_376 rfl (lv_at hl 0 rfl) ?_
                            refine va_get (D := (dC, dI)) (ci := 6) (v := .ref (NA 194)) (C := "BasisWalkModel") (T := T_Mo) (N := 31) hx hb hts iw1 hown hK hP 0 rfl rfl 2 (by decide) fl4 (fun _ h9 => h9) rfl d_Mo_determinant_377 ?_
                            obtain ⟨n_114, h⟩ := ck_p_s h
                            obtain ⟨u_111, u_112, u_113, hc_118, h⟩ := ck_b3_s h
                            obtain ⟨hPc, hDc⟩ := po_cut (ks := [kp_110, 194]) (ks2 hkp_110 (by decide)) (nd2 n_114) hP hD
                            have hPc : va_P (dC, dI) cl_all [(NA kp_110, .inr (5, [.ref (ND kp_110), .int (pn_91 kp_110), .int (pm_92 kp_110)])), (ND kp_110, .inl (cI, 160, .inl (pd_93 kp_110))), (NA 194, .inr (5, [.ref (ND 194), .int (pn_91 194), .int (pm_92 194)])), (ND 194, .inl (cI, 160, .inl (pd_93 194)))] H := hPc
                            have hDc : va_D A [(NA kp_110, .inr (5, [.ref (ND kp_110), .int (pn_91 kp_110), .int (pm_92 kp_110)])), (ND kp_110, .inl (cI, 160, .inl (pd_93 kp_110))), (NA 194, .inr (5, [.ref (ND 194), .int (pn_91 194), .int (pm_92 194)])), (ND 194, .inl (cI, 160, .inl (pd_93 194)))] := hDc
                            have hFc := pw_free hDc hS hA
                            refine va_callv (va_runV (As := [.ref (NA 194)]) (rest := []) ⟨hx, hb, hml, hown, hts⟩ (c_N_copy l dC dI cI cJ cB cZ cT cN H.size (NA kp_110) (NA 194) (ND kp_110) (ND 194) (pn_91 kp_110) (pm_92 kp_110) 160 (pd_93 kp_110) (pn_91 194) (pm_92 194) 160 (pd_93 194) _ hc_118) (cwV 1 hts (tb_V tw_510 tw_511 tw_512 tw_7 tw_513) rfl rfl rfl (by decide +kernel) ⟨Nat.le_of_ble_eq_true rfl, Nat.le_of_ble_eq_true rfl⟩) ⟨fun a U g mk q => by obtain ⟨q0, q1, qP, qK, qN, qD⟩ := q; exact ⟨q0, q1, qP, va_K.moved (u := U) (U := U.calling g mk a) (Vm.Alike.refl U.vm) qK, qN.same rfl, qD⟩, va_recv hK hPc (ci := 5) (q0 := 0) rfl rfl, fun U hU hW => ⟨rfl, by rw [hU], by rw [hU]; exact hPc, va_K.moved hW.alike hK, hN.warm hW, hDc.weaken (fun _ _ _ _ => trivial)⟩⟩ rfl rfl hl.1 rfl (lv_room (Nat.le_of_ble_eq_true rfl)) d_Mo_determinant_380 ⟨Nat.zero_le _, Nat.zero_le _⟩) hS (fun q _ h => hFc q h) hFc (fun u t H1 locs ht hvm hw hB hz1 hk1 hS => ?_)
                            replace hw := hw.symm
                            subst hw
                            obtain ⟨hP1, -, hD1⟩ := hB
                            rw [ht] at hP1
                            obtain ⟨pn_115, epn_115⟩ : ∃ y : Nat → Int32, y = (upd pn_91 kp_110 u_111) := ⟨_, rfl⟩
                            replace h := ck_nm_s h epn_115
                            obtain ⟨pm_116, epm_116⟩ : ∃ y : Nat → Int32, y = (upd pm_92 kp_110 u_112) := ⟨_, rfl⟩
                            replace h := ck_nm_s h epm_116
                            obtain ⟨pd_117, epd_117⟩ : ∃ y : Nat → Nat → Int32, y = (va_up pd_93 kp_110 u_113) := ⟨_, rfl⟩
                            replace h := ck_nm_s h epd_117
                            have fq_119 : pn_115 kp_110 = u_111 := by simp [epn_115, upd, va_up, n_114, Ne.symm n_114]
                            have fq_120 : pm_116 kp_110 = u_112 := by simp [epm_116, upd, va_up, n_114, Ne.symm n_114]
                            have fq_121 : pd_117 kp_110 = u_113 := by simp [epd_117, upd, va_up, n_114, Ne.symm n_114]
                            have fq_122 : pn_115 194 = pn_91 194 := by simp [epn_115, upd, va_up, n_114, Ne.symm n_114]
                            have fq_123 : pm_116 194 = pm_92 194 := by simp [epm_116, upd, va_up, n_114, Ne.symm n_114]
                            have fq_124 : pd_117 194 = pd_93 194 := by simp [epd_117, upd, va_up, n_114, Ne.symm n_114]
                            obtain ⟨hP, hD⟩ := po_back (ks := [kp_110, 194]) (pn' := pn_115) (pm' := pm_116) (pd' := pd_117) (ks2 hkp_110 (by decide)) hP hD hk1 (by show va_P (dC, dI) cl_all [(NA kp_110, .inr (5, [.ref (ND kp_110), .int (pn_115 kp_110), .int (pm_116 kp_110)])), (ND kp_110, .inl (cI, 160, .inl (pd_117 kp_110))), (NA 194, .inr (5, [.ref (ND 194), .int (pn_115 194), .int (pm_116 194)])), (ND 194, .inl (cI, 160, .inl (pd_117 194)))] H1; rw [fq_119, fq_120, fq_121, fq_122, fq_123, fq_124]; exact hP1) (fun j hj => by simp only [List.mem_cons, List.not_mem_nil, or_false, not_or] at hj; exact ⟨by simp [epn_115, upd, va_up, hj], by simp [epm_116, upd, va_up, hj], by simp [epd_117, upd, va_up, hj]⟩)
                            generalize H1 = H at hP hS ⊢
                            have hP : va_P (dC, dI) cl_all (xw cI cJ cB cZ cN ha NA m_rows m_columns m_prime m_small m_pivots m_freeRows m_freeColumns m_smallMinor m_fields m_rowCounts m_elements m_numbers m_known m_ranks m_rankOf m_signOf m_order m_sizes m_coefficients m_choices m_sorted ++ po cI NA ND pn_115 pm_116 pd_117) H := hP
                            have hD : va_D A (xw cI cJ cB cZ cN ha NA m_rows m_columns m_prime m_small m_pivots m_freeRows m_freeColumns m_smallMinor m_fields m_rowCounts m_elements m_numbers m_known m_ranks m_rankOf m_signOf m_order m_sizes m_coefficients m_choices m_sorted ++ po cI NA ND pn_115 pm_116 pd_117) := hD
                            exact J_383 _ _ _ h _ _ hP hD hS _ (lv_sub hl [0, 1, 2, 3, 4, 5] rfl)
                          · replace h := ck_if_f h c_108
                            refine lv_aload_n hx hb d_Mo_determinant_310 rfl (lv_at hl 0 rfl) ?_
                            refine va_get (D := (dC, dI)) (ci := 6) (v := .ref (NA 192)) (C := "BasisWalkModel") (T := T_Mo) (N := 31) hx hb hts iw1 hown hK hP 0 rfl rfl 0 (by decide) fl2 (fun _ h9 => h9) rfl d_Mo_determinant_311 ?_
                            refine lv_aload_n hx hb d_Mo_determinant_314 rfl (lv_at hl 0 rfl) ?_
                            refine va_get (D := (dC, dI)) (ci := 6) (v := .ref (NA 194)) (C := "BasisWalkModel") (T := T_Mo) (N := 31) hx hb hts iw1 hown hK hP 0 rfl rfl 2 (by decide) fl4 (fun _ h9 => h9) rfl d_Mo_determinant_315 ?_
                            refine lv_aload_n hx hb d_Mo_determinant_318 rfl (lv_at hl 0 rfl) ?_
                            refine va_get (D := (dC, dI)) (ci := 6) (v := .ref (ha 6)) (C := "BasisWalkModel") (T := T_Mo) (N := 31) hx hb hts iw1 hown hK hP 0 rfl rfl 16 (by decide) fl0 (fun _ h9 => h9) rfl d_Mo_determinant_319 ?_
                            refine lv_bipush (v := 6) hx hb d_Mo_determinant_322 (by decide) ?_
                            refine lv_iload_n hx hb d_Mo_determinant_324 rfl (lv_at hl 3 rfl) ?_
                            refine lv_iconst (v := 1) hx hb d_Mo_determinant_325 (by decide) ?_
                            refine lv_isub hx hb d_Mo_determinant_326 ?_
                            refine lv_imul hx hb d_Mo_determinant_327 ?_
                            refine lv_iload_n hx hb d_Mo_determinant_328 rfl (lv_at hl 3 rfl) ?_
                            refine lv_iadd hx hb d_Mo_determinant_329 ?_
                            refine lv_iconst (v := 1) hx hb d_Mo_determinant_330 (by decide) ?_
                            refine lv_isub hx hb d_Mo_determinant_331 ?_
                            obtain ⟨g_125, h⟩ := ck_in_s h
                            refine va_aldq hx hb hK hP 6 5 rfl rfl g_125 d_Mo_determinant_332 ?_
                            obtain ⟨kp_126, ekp_126⟩ : ∃ y : Nat, y = (156 + (((6 * (v3_13 - 1)) + v3_13) - 1).toNatClampNeg) := ⟨_, rfl⟩
                            replace h := ck_nm_s h ekp_126
                            have hkp_126 : kp_126 < 200 := by have q9 := vp_lt g_125; omega
                            refine W.eq (g2 := F0 m 333 ls [.ref (NA kp_126), .ref (NA 194), .ref (NA 192)]) (by rw [ekp_126]; rfl) ?_
                            refine lv_aload_n hx hb d_Mo_determinant_333 rfl (lv_at hl 0 rfl) ?_
                            refine va_get (D := (dC, dI)) (ci := 6) (v := .ref (NA 193)) (C := "BasisWalkModel") (T := T_Mo) (N := 31) hx hb hts iw1 hown hK hP 0 rfl rfl 1 (by decide) fl3 (fun _ h9 => h9) rfl d_Mo_determinant_334 ?_
                            obtain ⟨n_133, h⟩ := ck_p_s h
                            obtain ⟨u_127, u_128, u_129, u_130, u_131, u_132, hc_137, h⟩ := ck_b6_s h
                            obtain ⟨hPc, hDc⟩ := po_cut (ks := [192, 194, kp_126, 193]) (ks4 (by decide) (by decide) hkp_126 (by decide)) (nd4 n_133) hP hD
                            have hPc : va_P (dC, dI) cl_all [(NA 192, .inr (5, [.ref (ND 192), .int (pn_91 192), .int (pm_92 192)])), (ND 192, .inl (cI, 160, .inl (pd_93 192))), (NA 194, .inr (5, [.ref (ND 194), .int (pn_91 194), .int (pm_92 194)])), (ND 194, .inl (cI, 160, .inl (pd_93 194))), (NA kp_126, .inr (5, [.ref (ND kp_126), .int (pn_91 kp_126), .int (pm_92 kp_126)])), (ND kp_126, .inl (cI, 160, .inl (pd_93 kp_126))), (NA 193, .inr (5, [.ref (ND 193), .int (pn_91 193), .int (pm_92 193)])), (ND 193, .inl (cI, 160, .inl (pd_93 193)))] H := hPc
                            have hDc : va_D A [(NA 192, .inr (5, [.ref (ND 192), .int (pn_91 192), .int (pm_92 192)])), (ND 192, .inl (cI, 160, .inl (pd_93 192))), (NA 194, .inr (5, [.ref (ND 194), .int (pn_91 194), .int (pm_92 194)])), (ND 194, .inl (cI, 160, .inl (pd_93 194))), (NA kp_126, .inr (5, [.ref (ND kp_126), .int (pn_91 kp_126), .int (pm_92 kp_126)])), (ND kp_126, .inl (cI, 160, .inl (pd_93 kp_126))), (NA 193, .inr (5, [.ref (ND 193), .int (pn_91 193), .int (pm_92 193)])), (ND 193, .inl (cI, 160, .inl (pd_93 193)))] := hDc
                            have hFc := pw_free hDc hS hA
                            refine va_callv (va_runV (As := [.ref (NA 194), .ref (NA kp_126), .ref (NA 193)]) (rest := []) ⟨hx, hb, hml, hown, hts⟩ (c_N_quotient l dC dI cI cJ cB cZ cT cN H.size (NA 192) (NA 194) (NA kp_126) (NA 193) (ND 192) (ND 194) (ND kp_126) (ND 193) (pn_91 192) (pm_92 192) 160 (pd_93 192) (pn_91 194) (pm_92 194) 160 (pd_93 194) (pn_91 kp_126) (pm_92 kp_126) 160 (pd_93 kp_126) (pn_91 193) (pm_92 193) 160 (pd_93 193) _ hc_137) (cwV 3 hts (tb_V tw_548 tw_549 tw_550 tw_7 tw_551) rfl rfl rfl (by decide +kernel) ⟨Nat.le_of_ble_eq_true rfl, Nat.le_of_ble_eq_true rfl⟩) ⟨fun a U g mk q => by obtain ⟨q0, q1, qP, qK, qN, qD⟩ := q; exact ⟨q0, q1, qP, va_K.moved (u := U) (U := U.calling g mk a) (Vm.Alike.refl U.vm) qK, qN.same rfl, qD⟩, va_recv hK hPc (ci := 5) (q0 := 0) rfl rfl, fun U hU hW => ⟨rfl, by rw [hU], by rw [hU]; exact hPc, va_K.moved hW.alike hK, hN.warm hW, hDc.weaken (fun _ _ _ _ => trivial)⟩⟩ rfl rfl hl.1 rfl (lv_room (Nat.le_of_ble_eq_true rfl)) d_Mo_determinant_337 ⟨Nat.zero_le _, Nat.zero_le _⟩) hS (fun q _ h => hFc q h) hFc (fun u t H1 locs ht hvm hw hB hz1 hk1 hS => ?_)
                            replace hw := hw.symm
                            subst hw
                            obtain ⟨hP1, -, hD1⟩ := hB
                            rw [ht] at hP1
                            obtain ⟨pn_134, epn_134⟩ : ∃ y : Nat → Int32, y = (upd (upd pn_91 192 u_127) 193 u_130) := ⟨_, rfl⟩
                            replace h := ck_nm_s h epn_134
                            obtain ⟨pm_135, epm_135⟩ : ∃ y : Nat → Int32, y = (upd (upd pm_92 192 u_128) 193 u_131) := ⟨_, rfl⟩
                            replace h := ck_nm_s h epm_135
                            obtain ⟨pd_136, epd_136⟩ : ∃ y : Nat → Nat → Int32, y = (va_up (va_up pd_93 192 u_129) 193 u_132) := ⟨_, rfl⟩
                            replace h := ck_nm_s h epd_136
                            have fq_138 : pn_134 192 = u_127 := by simp [epn_134, upd, va_up, n_133.1, Ne.symm n_133.1, n_133.2.1, Ne.symm n_133.2.1, n_133.2.2.1, Ne.symm n_133.2.2.1, n_133.2.2.2.1, Ne.symm n_133.2.2.2.1, n_133.2.2.2.2.1, Ne.symm n_133.2.2.2.2.1, n_133.2.2.2.2.2, Ne.symm n_133.2.2.2.2.2]
                            have fq_139 : pm_135 192 = u_128 := by simp [epm_135, upd, va_up, n_133.1, Ne.symm n_133.1, n_133.2.1, Ne.symm n_133.2.1, n_133.2.2.1, Ne.symm n_133.2.2.1, n_133.2.2.2.1, Ne.symm n_133.2.2.2.1, n_133.2.2.2.2.1, Ne.symm n_133.2.2.2.2.1, n_133.2.2.2.2.2, Ne.symm n_133.2.2.2.2.2]
                            have fq_140 : pd_136 192 = u_129 := by simp [epd_136, upd, va_up, n_133.1, Ne.symm n_133.1, n_133.2.1, Ne.symm n_133.2.1, n_133.2.2.1, Ne.symm n_133.2.2.1, n_133.2.2.2.1, Ne.symm n_133.2.2.2.1, n_133.2.2.2.2.1, Ne.symm n_133.2.2.2.2.1, n_133.2.2.2.2.2, Ne.symm n_133.2.2.2.2.2]
                            have fq_141 : pn_134 194 = pn_91 194 := by simp [epn_134, upd, va_up, n_133.1, Ne.symm n_133.1, n_133.2.1, Ne.symm n_133.2.1, n_133.2.2.1, Ne.symm n_133.2.2.1, n_133.2.2.2.1, Ne.symm n_133.2.2.2.1, n_133.2.2.2.2.1, Ne.symm n_133.2.2.2.2.1, n_133.2.2.2.2.2, Ne.symm n_133.2.2.2.2.2]
                            have fq_142 : pm_135 194 = pm_92 194 := by simp [epm_135, upd, va_up, n_133.1, Ne.symm n_133.1, n_133.2.1, Ne.symm n_133.2.1, n_133.2.2.1, Ne.symm n_133.2.2.1, n_133.2.2.2.1, Ne.symm n_133.2.2.2.1, n_133.2.2.2.2.1, Ne.symm n_133.2.2.2.2.1, n_133.2.2.2.2.2, Ne.symm n_133.2.2.2.2.2]
                            have fq_143 : pd_136 194 = pd_93 194 := by simp [epd_136, upd, va_up, n_133.1, Ne.symm n_133.1, n_133.2.1, Ne.symm n_133.2.1, n_133.2.2.1, Ne.symm n_133.2.2.1, n_133.2.2.2.1, Ne.symm n_133.2.2.2.1, n_133.2.2.2.2.1, Ne.symm n_133.2.2.2.2.1, n_133.2.2.2.2.2, Ne.symm n_133.2.2.2.2.2]
                            have fq_144 : pn_134 kp_126 = pn_91 kp_126 := by simp [epn_134, upd, va_up, n_133.1, Ne.symm n_133.1, n_133.2.1, Ne.symm n_133.2.1, n_133.2.2.1, Ne.symm n_133.2.2.1, n_133.2.2.2.1, Ne.symm n_133.2.2.2.1, n_133.2.2.2.2.1, Ne.symm n_133.2.2.2.2.1, n_133.2.2.2.2.2, Ne.symm n_133.2.2.2.2.2]
                            have fq_145 : pm_135 kp_126 = pm_92 kp_126 := by simp [epm_135, upd, va_up, n_133.1, Ne.symm n_133.1, n_133.2.1, Ne.symm n_133.2.1, n_133.2.2.1, Ne.symm n_133.2.2.1, n_133.2.2.2.1, Ne.symm n_133.2.2.2.1, n_133.2.2.2.2.1, Ne.symm n_133.2.2.2.2.1, n_133.2.2.2.2.2, Ne.symm n_133.2.2.2.2.2]
                            have fq_146 : pd_136 kp_126 = pd_93 kp_126 := by simp [epd_136, upd, va_up, n_133.1, Ne.symm n_133.1, n_133.2.1, Ne.symm n_133.2.1, n_133.2.2.1, Ne.symm n_133.2.2.1, n_133.2.2.2.1, Ne.symm n_133.2.2.2.1, n_133.2.2.2.2.1, Ne.symm n_133.2.2.2.2.1, n_133.2.2.2.2.2, Ne.symm n_133.2.2.2.2.2]
                            have fq_147 : pn_134 193 = u_130 := by simp [epn_134, upd, va_up, n_133.1, Ne.symm n_133.1, n_133.2.1, Ne.symm n_133.2.1, n_133.2.2.1, Ne.symm n_133.2.2.1, n_133.2.2.2.1, Ne.symm n_133.2.2.2.1, n_133.2.2.2.2.1, Ne.symm n_133.2.2.2.2.1, n_133.2.2.2.2.2, Ne.symm n_133.2.2.2.2.2]
                            have fq_148 : pm_135 193 = u_131 := by simp [epm_135, upd, va_up, n_133.1, Ne.symm n_133.1, n_133.2.1, Ne.symm n_133.2.1, n_133.2.2.1, Ne.symm n_133.2.2.1, n_133.2.2.2.1, Ne.symm n_133.2.2.2.1, n_133.2.2.2.2.1, Ne.symm n_133.2.2.2.2.1, n_133.2.2.2.2.2, Ne.symm n_133.2.2.2.2.2]
                            have fq_149 : pd_136 193 = u_132 := by simp [epd_136, upd, va_up, n_133.1, Ne.symm n_133.1, n_133.2.1, Ne.symm n_133.2.1, n_133.2.2.1, Ne.symm n_133.2.2.1, n_133.2.2.2.1, Ne.symm n_133.2.2.2.1, n_133.2.2.2.2.1, Ne.symm n_133.2.2.2.2.1, n_133.2.2.2.2.2, Ne.symm n_133.2.2.2.2.2]
                            obtain ⟨hP, hD⟩ := po_back (ks := [192, 194, kp_126, 193]) (pn' := pn_134) (pm' := pm_135) (pd' := pd_136) (ks4 (by decide) (by decide) hkp_126 (by decide)) hP hD hk1 (by show va_P (dC, dI) cl_all [(NA 192, .inr (5, [.ref (ND 192), .int (pn_134 192), .int (pm_135 192)])), (ND 192, .inl (cI, 160, .inl (pd_136 192))), (NA 194, .inr (5, [.ref (ND 194), .int (pn_134 194), .int (pm_135 194)])), (ND 194, .inl (cI, 160, .inl (pd_136 194))), (NA kp_126, .inr (5, [.ref (ND kp_126), .int (pn_134 kp_126), .int (pm_135 kp_126)])), (ND kp_126, .inl (cI, 160, .inl (pd_136 kp_126))), (NA 193, .inr (5, [.ref (ND 193), .int (pn_134 193), .int (pm_135 193)])), (ND 193, .inl (cI, 160, .inl (pd_136 193)))] H1; rw [fq_138, fq_139, fq_140, fq_141, fq_142, fq_143, fq_144, fq_145, fq_146, fq_147, fq_148, fq_149]; exact hP1) (fun j hj => by simp only [List.mem_cons, List.not_mem_nil, or_false, not_or] at hj; exact ⟨by simp [epn_134, upd, va_up, hj], by simp [epm_135, upd, va_up, hj], by simp [epd_136, upd, va_up, hj]⟩)
                            generalize H1 = H at hP hS ⊢
                            have hP : va_P (dC, dI) cl_all (xw cI cJ cB cZ cN ha NA m_rows m_columns m_prime m_small m_pivots m_freeRows m_freeColumns m_smallMinor m_fields m_rowCounts m_elements m_numbers m_known m_ranks m_rankOf m_signOf m_order m_sizes m_coefficients m_choices m_sorted ++ po cI NA ND pn_134 pm_135 pd_136) H := hP
                            have hD : va_D A (xw cI cJ cB cZ cN ha NA m_rows m_columns m_prime m_small m_pivots m_freeRows m_freeColumns m_smallMinor m_fields m_rowCounts m_elements m_numbers m_known m_ranks m_rankOf m_signOf m_order m_sizes m_coefficients m_choices m_sorted ++ po cI NA ND pn_134 pm_135 pd_136) := hD
                            refine lv_aload_n hx hb d_Mo_determinant_340 rfl (lv_at hl 0 rfl) ?_
                            refine va_get (D := (dC, dI)) (ci := 6) (v := .ref (ha 6)) (C := "BasisWalkModel") (T := T_Mo) (N := 31) hx hb hts iw1 hown hK hP 0 rfl rfl 16 (by decide) fl0 (fun _ h9 => h9) rfl d_Mo_determinant_341 ?_
                            refine lv_bipush (v := 6) hx hb d_Mo_determinant_344 (by decide) ?_
                            refine lv_iload hx hb d_Mo_determinant_346 (lv_at hl 4 rfl) ?_
                            refine lv_imul hx hb d_Mo_determinant_348 ?_
                            refine lv_iload hx hb d_Mo_determinant_349 (lv_at hl 5 rfl) ?_
                            refine lv_iadd hx hb d_Mo_determinant_351 ?_
                            obtain ⟨g_150, h⟩ := ck_in_s h
                            refine va_aldq hx hb hK hP 6 5 rfl rfl g_150 d_Mo_determinant_352 ?_
                            obtain ⟨kp_151, ekp_151⟩ : ∃ y : Nat, y = (156 + ((6 * v5_30) + v6_40).toNatClampNeg) := ⟨_, rfl⟩
                            replace h := ck_nm_s h ekp_151
                            have hkp_151 : kp_151 < 200 := by have q9 := vp_lt g_150; omega
                            refine W.eq (g2 := F0 m 353 ls [.ref (NA kp_151)]) (by rw [ekp_151]; rfl) ?_
                            refine lv_aload_n hx hb d_Mo_determinant_353 rfl (lv_at hl 0 rfl) ?_
                            refine va_get (D := (dC, dI)) (ci := 6) (v := .ref (NA 192)) (C := "BasisWalkModel") (T := T_Mo) (N := 31) hx hb hts iw1 hown hK hP 0 rfl rfl 0 (by decide) fl2 (fun _ h9 => h9) rfl d_Mo_determinant_354 ?_
                            obtain ⟨n_155, h⟩ := ck_p_s h
                            obtain ⟨u_152, u_153, u_154, hc_159, h⟩ := ck_b3_s h
                            obtain ⟨hPc, hDc⟩ := po_cut (ks := [kp_151, 192]) (ks2 hkp_151 (by decide)) (nd2 n_155) hP hD
                            have hPc : va_P (dC, dI) cl_all [(NA kp_151, .inr (5, [.ref (ND kp_151), .int (pn_134 kp_151), .int (pm_135 kp_151)])), (ND kp_151, .inl (cI, 160, .inl (pd_136 kp_151))), (NA 192, .inr (5, [.ref (ND 192), .int (pn_134 192), .int (pm_135 192)])), (ND 192, .inl (cI, 160, .inl (pd_136 192)))] H := hPc
                            have hDc : va_D A [(NA kp_151, .inr (5, [.ref (ND kp_151), .int (pn_134 kp_151), .int (pm_135 kp_151)])), (ND kp_151, .inl (cI, 160, .inl (pd_136 kp_151))), (NA 192, .inr (5, [.ref (ND 192), .int (pn_134 192), .int (pm_135 192)])), (ND 192, .inl (cI, 160, .inl (pd_136 192)))] := hDc
                            have hFc := pw_free hDc hS hA
                            refine va_callv (va_runV (As := [.ref (NA 192)]) (rest := []) ⟨hx, hb, hml, hown, hts⟩ (c_N_copy l dC dI cI cJ cB cZ cT cN H.size (NA kp_151) (NA 192) (ND kp_151) (ND 192) (pn_134 kp_151) (pm_135 kp_151) 160 (pd_136 kp_151) (pn_134 192) (pm_135 192) 160 (pd_136 192) _ hc_159) (cwV 1 hts (tb_V tw_510 tw_511 tw_512 tw_7 tw_513) rfl rfl rfl (by decide +kernel) ⟨Nat.le_of_ble_eq_true rfl, Nat.le_of_ble_eq_true rfl⟩) ⟨fun a U g mk q => by obtain ⟨q0, q1, qP, qK, qN, qD⟩ := q; exact ⟨q0, q1, qP, va_K.moved (u := U) (U := U.calling g mk a) (Vm.Alike.refl U.vm) qK, qN.same rfl, qD⟩, va_recv hK hPc (ci := 5) (q0 := 0) rfl rfl, fun U hU hW => ⟨rfl, by rw [hU], by rw [hU]; exact hPc, va_K.moved hW.alike hK, hN.warm hW, hDc.weaken (fun _ _ _ _ => trivial)⟩⟩ rfl rfl hl.1 rfl (lv_room (Nat.le_of_ble_eq_true rfl)) d_Mo_determinant_357 ⟨Nat.zero_le _, Nat.zero_le _⟩) hS (fun q _ h => hFc q h) hFc (fun u t H1 locs ht hvm hw hB hz1 hk1 hS => ?_)
                            replace hw := hw.symm
                            subst hw
                            obtain ⟨hP1, -, hD1⟩ := hB
                            rw [ht] at hP1
                            obtain ⟨pn_156, epn_156⟩ : ∃ y : Nat → Int32, y = (upd pn_134 kp_151 u_152) := ⟨_, rfl⟩
                            replace h := ck_nm_s h epn_156
                            obtain ⟨pm_157, epm_157⟩ : ∃ y : Nat → Int32, y = (upd pm_135 kp_151 u_153) := ⟨_, rfl⟩
                            replace h := ck_nm_s h epm_157
                            obtain ⟨pd_158, epd_158⟩ : ∃ y : Nat → Nat → Int32, y = (va_up pd_136 kp_151 u_154) := ⟨_, rfl⟩
                            replace h := ck_nm_s h epd_158
                            have fq_160 : pn_156 kp_151 = u_152 := by simp [epn_156, upd, va_up, n_155, Ne.symm n_155]
                            have fq_161 : pm_157 kp_151 = u_153 := by simp [epm_157, upd, va_up, n_155, Ne.symm n_155]
                            have fq_162 : pd_158 kp_151 = u_154 := by simp [epd_158, upd, va_up, n_155, Ne.symm n_155]
                            have fq_163 : pn_156 192 = pn_134 192 := by simp [epn_156, upd, va_up, n_155, Ne.symm n_155]
                            have fq_164 : pm_157 192 = pm_135 192 := by simp [epm_157, upd, va_up, n_155, Ne.symm n_155]
                            have fq_165 : pd_158 192 = pd_136 192 := by simp [epd_158, upd, va_up, n_155, Ne.symm n_155]
                            obtain ⟨hP, hD⟩ := po_back (ks := [kp_151, 192]) (pn' := pn_156) (pm' := pm_157) (pd' := pd_158) (ks2 hkp_151 (by decide)) hP hD hk1 (by show va_P (dC, dI) cl_all [(NA kp_151, .inr (5, [.ref (ND kp_151), .int (pn_156 kp_151), .int (pm_157 kp_151)])), (ND kp_151, .inl (cI, 160, .inl (pd_158 kp_151))), (NA 192, .inr (5, [.ref (ND 192), .int (pn_156 192), .int (pm_157 192)])), (ND 192, .inl (cI, 160, .inl (pd_158 192)))] H1; rw [fq_160, fq_161, fq_162, fq_163, fq_164, fq_165]; exact hP1) (fun j hj => by simp only [List.mem_cons, List.not_mem_nil, or_false, not_or] at hj; exact ⟨by simp [epn_156, upd, va_up, hj], by simp [epm_157, upd, va_up, hj], by simp [epd_158, upd, va_up, hj]⟩)
                            generalize H1 = H at hP hS ⊢
                            have hP : va_P (dC, dI) cl_all (xw cI cJ cB cZ cN ha NA m_rows m_columns m_prime m_small m_pivots m_freeRows m_freeColumns m_smallMinor m_fields m_rowCounts m_elements m_numbers m_known m_ranks m_rankOf m_signOf m_order m_sizes m_coefficients m_choices m_sorted ++ po cI NA ND pn_156 pm_157 pd_158) H := hP
                            have hD : va_D A (xw cI cJ cB cZ cN ha NA m_rows m_columns m_prime m_small m_pivots m_freeRows m_freeColumns m_smallMinor m_fields m_rowCounts m_elements m_numbers m_known m_ranks m_rankOf m_signOf m_order m_sizes m_coefficients m_choices m_sorted ++ po cI NA ND pn_156 pm_157 pd_158) := hD
                            refine lv_goto (tgt := 383) hx hb d_Mo_determinant_360 (by decide) ?_
                            exact J_383 _ _ _ h _ _ hP hD hS _ (lv_sub hl [0, 1, 2, 3, 4, 5] rfl)
              · intro k_206 J_206 h
                refine lv_icmp_eq (tgt := 205) hx hb d_Mo_determinant_197 (by decide) (fun c_166 => ?_) (fun c_166 => ?_)
                · replace h := ck_if_t h c_166
                  refine lv_iload_n hx hb d_Mo_determinant_205 rfl (lv_at hl 2 rfl) ?_
                  exact J_206 _ h _ _ hP hD hS _ (lv_sub hl [0, 1, 3] rfl)
                · replace h := ck_if_f h c_166
                  refine lv_iload_n hx hb d_Mo_determinant_200 rfl (lv_at hl 2 rfl) ?_
                  refine lv_ineg hx hb d_Mo_determinant_201 ?_
                  refine lv_goto (tgt := 206) hx hb d_Mo_determinant_202 (by decide) ?_
                  exact J_206 _ h _ _ hP hD hS _ (lv_sub hl [0, 1, 3] rfl)
            · intro k_194 J_194 h
              refine lo4_W (r := r) (fun (v5_167 : Int32) (pn_168 : Nat → Int32) (pm_169 : Nat → Int32) (pd_170 : Nat → Nat → Int32) => ∀ (H : Heap) (locs : List Loc), va_P (dC, dI) cl_all (xw cI cJ cB cZ cN ha NA m_rows m_columns m_prime m_small m_pivots m_freeRows m_freeColumns m_smallMinor m_fields m_rowCounts m_elements m_numbers m_known m_ranks m_rankOf m_signOf m_order m_sizes m_coefficients m_choices m_sorted ++ po cI NA ND pn_168 pm_169 pd_170) H → va_D A (xw cI cJ cB cZ cN ha NA m_rows m_columns m_prime m_small m_pivots m_freeRows m_freeColumns m_smallMinor m_fields m_rowCounts m_elements m_numbers m_known m_ranks m_rankOf m_signOf m_order m_sizes m_coefficients m_choices m_sorted ++ po cI NA ND pn_168 pm_169 pd_170) → va_S A s.heap H locs → ∀ ls : Array Slot, lv_has ls 7 [(0, .ref (ha 0)), (1, .int n0), (2, .int v2_14), (3, .int v3_13), (4, .int v4_19), (5, .int v5_167)] → W p l e ({ frames := 3, cells := 0, slots := 0, locals := 80 } : Room) s m AR below meth c H locs 0 0 QQ (F0 m 109 ls [])) ?_ _ _ _ _ _ h _ _ hP hD hS _ (lv_sub hl [1, 2, 3, 4, 5, 0] rfl)
              intro k_109 v5_167 pn_168 pm_169 pd_170 J_109 h H locs hP hD hS ls hl
              refine lv_iload hx hb d_Mo_determinant_109 (lv_at hl 5 rfl) ?_
              refine lv_iload_n hx hb d_Mo_determinant_111 rfl (lv_at hl 1 rfl) ?_
              refine lv_icmp_ge (tgt := 194) hx hb d_Mo_determinant_112 (by decide) (fun c_171 => ?_) (fun c_171 => ?_)
              · replace h := ck_if_t h c_171
                exact J_194 _ _ _ h _ _ hP hD hS _ (lv_sub hl [0, 1, 2, 3, 4] rfl)
              · replace h := ck_if_f h c_171
                refine lv_iload hx hb d_Mo_determinant_115 (lv_at hl 4 rfl) ?_
                refine lv_iload_n hx hb d_Mo_determinant_117 rfl (lv_at hl 3 rfl) ?_
                refine lv_icmp_eq (tgt := 194) hx hb d_Mo_determinant_118 (by decide) (fun c_172 => ?_) (fun c_172 => ?_)
                · replace h := ck_if_t h c_172
                  exact J_194 _ _ _ h _ _ hP hD hS _ (lv_sub hl [0, 1, 2, 3, 4] rfl)
                · replace h := ck_if_f h c_172
                  refine lv_aload_n hx hb d_Mo_determinant_121 rfl (lv_at hl 0 rfl) ?_
                  refine va_get (D := (dC, dI)) (ci := 6) (v := .ref (NA 192)) (C := "BasisWalkModel") (T := T_Mo) (N := 31) hx hb hts iw1 hown hK hP 0 rfl rfl 0 (by decide) fl2 (fun _ h9 => h9) rfl d_Mo_determinant_122 ?_
                  refine lv_aload_n hx hb d_Mo_determinant_125 rfl (lv_at hl 0 rfl) ?_
                  refine va_get (D := (dC, dI)) (ci := 6) (v := .ref (ha 6)) (C := "BasisWalkModel") (T := T_Mo) (N := 31) hx hb hts iw1 hown hK hP 0 rfl rfl 16 (by decide) fl0 (fun _ h9 => h9) rfl d_Mo_determinant_126 ?_
                  refine lv_bipush (v := 6) hx hb d_Mo_determinant_129 (by decide) ?_
                  refine lv_iload hx hb d_Mo_determinant_131 (lv_at hl 4 rfl) ?_
                  refine lv_imul hx hb d_Mo_determinant_133 ?_
                  refine lv_iload hx hb d_Mo_determinant_134 (lv_at hl 5 rfl) ?_
                  refine lv_iadd hx hb d_Mo_determinant_136 ?_
                  obtain ⟨g_173, h⟩ := ck_in_s h
                  refine va_aldq hx hb hK hP 6 5 rfl rfl g_173 d_Mo_determinant_137 ?_
                  obtain ⟨kp_174, ekp_174⟩ : ∃ y : Nat, y = (156 + ((6 * v4_19) + v5_167).toNatClampNeg) := ⟨_, rfl⟩
                  replace h := ck_nm_s h ekp_174
                  have hkp_174 : kp_174 < 200 := by have q9 := vp_lt g_173; omega
                  refine W.eq (g2 := F0 m 138 ls [.ref (NA kp_174), .ref (NA 192)]) (by rw [ekp_174]; rfl) ?_
                  obtain ⟨n_178, h⟩ := ck_p_s h
                  obtain ⟨u_175, u_176, u_177, hc_182, h⟩ := ck_b3_s h
                  obtain ⟨hPc, hDc⟩ := po_cut (ks := [192, kp_174]) (ks2 (by decide) hkp_174) (nd2 n_178) hP hD
                  have hPc : va_P (dC, dI) cl_all [(NA 192, .inr (5, [.ref (ND 192), .int (pn_168 192), .int (pm_169 192)])), (ND 192, .inl (cI, 160, .inl (pd_170 192))), (NA kp_174, .inr (5, [.ref (ND kp_174), .int (pn_168 kp_174), .int (pm_169 kp_174)])), (ND kp_174, .inl (cI, 160, .inl (pd_170 kp_174)))] H := hPc
                  have hDc : va_D A [(NA 192, .inr (5, [.ref (ND 192), .int (pn_168 192), .int (pm_169 192)])), (ND 192, .inl (cI, 160, .inl (pd_170 192))), (NA kp_174, .inr (5, [.ref (ND kp_174), .int (pn_168 kp_174), .int (pm_169 kp_174)])), (ND kp_174, .inl (cI, 160, .inl (pd_170 kp_174)))] := hDc
                  have hFc := pw_free hDc hS hA
                  refine va_callv (va_runV (As := [.ref (NA kp_174)]) (rest := []) ⟨hx, hb, hml, hown, hts⟩ (c_N_copy l dC dI cI cJ cB cZ cT cN H.size (NA 192) (NA kp_174) (ND 192) (ND kp_174) (pn_168 192) (pm_169 192) 160 (pd_170 192) (pn_168 kp_174) (pm_169 kp_174) 160 (pd_170 kp_174) _ hc_182) (cwV 1 hts (tb_V tw_510 tw_511 tw_512 tw_7 tw_513) rfl rfl rfl (by decide +kernel) ⟨Nat.le_of_ble_eq_true rfl, Nat.le_of_ble_eq_true rfl⟩) ⟨fun a U g mk q => by obtain ⟨q0, q1, qP, qK, qN, qD⟩ := q; exact ⟨q0, q1, qP, va_K.moved (u := U) (U := U.calling g mk a) (Vm.Alike.refl U.vm) qK, qN.same rfl, qD⟩, va_recv hK hPc (ci := 5) (q0 := 0) rfl rfl, fun U hU hW => ⟨rfl, by rw [hU], by rw [hU]; exact hPc, va_K.moved hW.alike hK, hN.warm hW, hDc.weaken (fun _ _ _ _ => trivial)⟩⟩ rfl rfl hl.1 rfl (lv_room (Nat.le_of_ble_eq_true rfl)) d_Mo_determinant_138 ⟨Nat.zero_le _, Nat.zero_le _⟩) hS (fun q _ h => hFc q h) hFc (fun u t H1 locs ht hvm hw hB hz1 hk1 hS => ?_)
                  replace hw := hw.symm
                  subst hw
                  obtain ⟨hP1, -, hD1⟩ := hB
                  rw [ht] at hP1
                  obtain ⟨pn_179, epn_179⟩ : ∃ y : Nat → Int32, y = (upd pn_168 192 u_175) := ⟨_, rfl⟩
                  replace h := ck_nm_s h epn_179
                  obtain ⟨pm_180, epm_180⟩ : ∃ y : Nat → Int32, y = (upd pm_169 192 u_176) := ⟨_, rfl⟩
                  replace h := ck_nm_s h epm_180
                  obtain ⟨pd_181, epd_181⟩ : ∃ y : Nat → Nat → Int32, y = (va_up pd_170 192 u_177) := ⟨_, rfl⟩
                  replace h := ck_nm_s h epd_181
                  have fq_183 : pn_179 192 = u_175 := by simp [epn_179, upd, va_up, n_178, Ne.symm n_178]
                  have fq_184 : pm_180 192 = u_176 := by simp [epm_180, upd, va_up, n_178, Ne.symm n_178]
                  have fq_185 : pd_181 192 = u_177 := by simp [epd_181, upd, va_up, n_178, Ne.symm n_178]
                  have fq_186 : pn_179 kp_174 = pn_168 kp_174 := by simp [epn_179, upd, va_up, n_178, Ne.symm n_178]
                  have fq_187 : pm_180 kp_174 = pm_169 kp_174 := by simp [epm_180, upd, va_up, n_178, Ne.symm n_178]
                  have fq_188 : pd_181 kp_174 = pd_170 kp_174 := by simp [epd_181, upd, va_up, n_178, Ne.symm n_178]
                  obtain ⟨hP, hD⟩ := po_back (ks := [192, kp_174]) (pn' := pn_179) (pm' := pm_180) (pd' := pd_181) (ks2 (by decide) hkp_174) hP hD hk1 (by show va_P (dC, dI) cl_all [(NA 192, .inr (5, [.ref (ND 192), .int (pn_179 192), .int (pm_180 192)])), (ND 192, .inl (cI, 160, .inl (pd_181 192))), (NA kp_174, .inr (5, [.ref (ND kp_174), .int (pn_179 kp_174), .int (pm_180 kp_174)])), (ND kp_174, .inl (cI, 160, .inl (pd_181 kp_174)))] H1; rw [fq_183, fq_184, fq_185, fq_186, fq_187, fq_188]; exact hP1) (fun j hj => by simp only [List.mem_cons, List.not_mem_nil, or_false, not_or] at hj; exact ⟨by simp [epn_179, upd, va_up, hj], by simp [epm_180, upd, va_up, hj], by simp [epd_181, upd, va_up, hj]⟩)
                  generalize H1 = H at hP hS ⊢
                  have hP : va_P (dC, dI) cl_all (xw cI cJ cB cZ cN ha NA m_rows m_columns m_prime m_small m_pivots m_freeRows m_freeColumns m_smallMinor m_fields m_rowCounts m_elements m_numbers m_known m_ranks m_rankOf m_signOf m_order m_sizes m_coefficients m_choices m_sorted ++ po cI NA ND pn_179 pm_180 pd_181) H := hP
                  have hD : va_D A (xw cI cJ cB cZ cN ha NA m_rows m_columns m_prime m_small m_pivots m_freeRows m_freeColumns m_smallMinor m_fields m_rowCounts m_elements m_numbers m_known m_ranks m_rankOf m_signOf m_order m_sizes m_coefficients m_choices m_sorted ++ po cI NA ND pn_179 pm_180 pd_181) := hD
                  refine lv_aload_n hx hb d_Mo_determinant_141 rfl (lv_at hl 0 rfl) ?_
                  refine va_get (D := (dC, dI)) (ci := 6) (v := .ref (ha 6)) (C := "BasisWalkModel") (T := T_Mo) (N := 31) hx hb hts iw1 hown hK hP 0 rfl rfl 16 (by decide) fl0 (fun _ h9 => h9) rfl d_Mo_determinant_142 ?_
                  refine lv_bipush (v := 6) hx hb d_Mo_determinant_145 (by decide) ?_
                  refine lv_iload hx hb d_Mo_determinant_147 (lv_at hl 4 rfl) ?_
                  refine lv_imul hx hb d_Mo_determinant_149 ?_
                  refine lv_iload hx hb d_Mo_determinant_150 (lv_at hl 5 rfl) ?_
                  refine lv_iadd hx hb d_Mo_determinant_152 ?_
                  obtain ⟨g_189, h⟩ := ck_in_s h
                  refine va_aldq hx hb hK hP 6 5 rfl rfl g_189 d_Mo_determinant_153 ?_
                  obtain ⟨kp_190, ekp_190⟩ : ∃ y : Nat, y = (156 + ((6 * v4_19) + v5_167).toNatClampNeg) := ⟨_, rfl⟩
                  replace h := ck_nm_s h ekp_190
                  have hkp_190 : kp_190 < 200 := by have q9 := vp_lt g_189; omega
                  refine W.eq (g2 := F0 m 154 ls [.ref (NA kp_190)]) (by rw [ekp_190]; rfl) ?_
                  refine lv_aload_n hx hb d_Mo_determinant_154 rfl (lv_at hl 0 rfl) ?_
                  refine va_get (D := (dC, dI)) (ci := 6) (v := .ref (ha 6)) (C := "BasisWalkModel") (T := T_Mo) (N := 31) hx hb hts iw1 hown hK hP 0 rfl rfl 16 (by decide) fl0 (fun _ h9 => h9) rfl d_Mo_determinant_155 ?_
                  refine lv_bipush (v := 6) hx hb d_Mo_determinant_158 (by decide) ?_
                  refine lv_iload_n hx hb d_Mo_determinant_160 rfl (lv_at hl 3 rfl) ?_
                  refine lv_imul hx hb d_Mo_determinant_161 ?_
                  refine lv_iload hx hb d_Mo_determinant_162 (lv_at hl 5 rfl) ?_
                  refine lv_iadd hx hb d_Mo_determinant_164 ?_
                  obtain ⟨g_191, h⟩ := ck_in_s h
                  refine va_aldq hx hb hK hP 6 5 rfl rfl g_191 d_Mo_determinant_165 ?_
                  obtain ⟨kp_192, ekp_192⟩ : ∃ y : Nat, y = (156 + ((6 * v3_13) + v5_167).toNatClampNeg) := ⟨_, rfl⟩
                  replace h := ck_nm_s h ekp_192
                  have hkp_192 : kp_192 < 200 := by have q9 := vp_lt g_191; omega
                  refine W.eq (g2 := F0 m 166 ls [.ref (NA kp_192), .ref (NA kp_190)]) (by rw [ekp_192]; rfl) ?_
                  obtain ⟨n_196, h⟩ := ck_p_s h
                  obtain ⟨u_193, u_194, u_195, hc_200, h⟩ := ck_b3_s h
                  obtain ⟨hPc, hDc⟩ := po_cut (ks := [kp_190, kp_192]) (ks2 hkp_190 hkp_192) (nd2 n_196) hP hD
                  have hPc : va_P (dC, dI) cl_all [(NA kp_190, .inr (5, [.ref (ND kp_190), .int (pn_179 kp_190), .int (pm_180 kp_190)])), (ND kp_190, .inl (cI, 160, .inl (pd_181 kp_190))), (NA kp_192, .inr (5, [.ref (ND kp_192), .int (pn_179 kp_192), .int (pm_180 kp_192)])), (ND kp_192, .inl (cI, 160, .inl (pd_181 kp_192)))] H := hPc
                  have hDc : va_D A [(NA kp_190, .inr (5, [.ref (ND kp_190), .int (pn_179 kp_190), .int (pm_180 kp_190)])), (ND kp_190, .inl (cI, 160, .inl (pd_181 kp_190))), (NA kp_192, .inr (5, [.ref (ND kp_192), .int (pn_179 kp_192), .int (pm_180 kp_192)])), (ND kp_192, .inl (cI, 160, .inl (pd_181 kp_192)))] := hDc
                  have hFc := pw_free hDc hS hA
                  refine va_callv (va_runV (As := [.ref (NA kp_192)]) (rest := []) ⟨hx, hb, hml, hown, hts⟩ (c_N_copy l dC dI cI cJ cB cZ cT cN H.size (NA kp_190) (NA kp_192) (ND kp_190) (ND kp_192) (pn_179 kp_190) (pm_180 kp_190) 160 (pd_181 kp_190) (pn_179 kp_192) (pm_180 kp_192) 160 (pd_181 kp_192) _ hc_200) (cwV 1 hts (tb_V tw_510 tw_511 tw_512 tw_7 tw_513) rfl rfl rfl (by decide +kernel) ⟨Nat.le_of_ble_eq_true rfl, Nat.le_of_ble_eq_true rfl⟩) ⟨fun a U g mk q => by obtain ⟨q0, q1, qP, qK, qN, qD⟩ := q; exact ⟨q0, q1, qP, va_K.moved (u := U) (U := U.calling g mk a) (Vm.Alike.refl U.vm) qK, qN.same rfl, qD⟩, va_recv hK hPc (ci := 5) (q0 := 0) rfl rfl, fun U hU hW => ⟨rfl, by rw [hU], by rw [hU]; exact hPc, va_K.moved hW.alike hK, hN.warm hW, hDc.weaken (fun _ _ _ _ => trivial)⟩⟩ rfl rfl hl.1 rfl (lv_room (Nat.le_of_ble_eq_true rfl)) d_Mo_determinant_166 ⟨Nat.zero_le _, Nat.zero_le _⟩) hS (fun q _ h => hFc q h) hFc (fun u t H1 locs ht hvm hw hB hz1 hk1 hS => ?_)
                  replace hw := hw.symm
                  subst hw
                  obtain ⟨hP1, -, hD1⟩ := hB
                  rw [ht] at hP1
                  obtain ⟨pn_197, epn_197⟩ : ∃ y : Nat → Int32, y = (upd pn_179 kp_190 u_193) := ⟨_, rfl⟩
                  replace h := ck_nm_s h epn_197
                  obtain ⟨pm_198, epm_198⟩ : ∃ y : Nat → Int32, y = (upd pm_180 kp_190 u_194) := ⟨_, rfl⟩
                  replace h := ck_nm_s h epm_198
                  obtain ⟨pd_199, epd_199⟩ : ∃ y : Nat → Nat → Int32, y = (va_up pd_181 kp_190 u_195) := ⟨_, rfl⟩
                  replace h := ck_nm_s h epd_199
                  have fq_201 : pn_197 kp_190 = u_193 := by simp [epn_197, upd, va_up, n_196, Ne.symm n_196]
                  have fq_202 : pm_198 kp_190 = u_194 := by simp [epm_198, upd, va_up, n_196, Ne.symm n_196]
                  have fq_203 : pd_199 kp_190 = u_195 := by simp [epd_199, upd, va_up, n_196, Ne.symm n_196]
                  have fq_204 : pn_197 kp_192 = pn_179 kp_192 := by simp [epn_197, upd, va_up, n_196, Ne.symm n_196]
                  have fq_205 : pm_198 kp_192 = pm_180 kp_192 := by simp [epm_198, upd, va_up, n_196, Ne.symm n_196]
                  have fq_206 : pd_199 kp_192 = pd_181 kp_192 := by simp [epd_199, upd, va_up, n_196, Ne.symm n_196]
                  obtain ⟨hP, hD⟩ := po_back (ks := [kp_190, kp_192]) (pn' := pn_197) (pm' := pm_198) (pd' := pd_199) (ks2 hkp_190 hkp_192) hP hD hk1 (by show va_P (dC, dI) cl_all [(NA kp_190, .inr (5, [.ref (ND kp_190), .int (pn_197 kp_190), .int (pm_198 kp_190)])), (ND kp_190, .inl (cI, 160, .inl (pd_199 kp_190))), (NA kp_192, .inr (5, [.ref (ND kp_192), .int (pn_197 kp_192), .int (pm_198 kp_192)])), (ND kp_192, .inl (cI, 160, .inl (pd_199 kp_192)))] H1; rw [fq_201, fq_202, fq_203, fq_204, fq_205, fq_206]; exact hP1) (fun j hj => by simp only [List.mem_cons, List.not_mem_nil, or_false, not_or] at hj; exact ⟨by simp [epn_197, upd, va_up, hj], by simp [epm_198, upd, va_up, hj], by simp [epd_199, upd, va_up, hj]⟩)
                  generalize H1 = H at hP hS ⊢
                  have hP : va_P (dC, dI) cl_all (xw cI cJ cB cZ cN ha NA m_rows m_columns m_prime m_small m_pivots m_freeRows m_freeColumns m_smallMinor m_fields m_rowCounts m_elements m_numbers m_known m_ranks m_rankOf m_signOf m_order m_sizes m_coefficients m_choices m_sorted ++ po cI NA ND pn_197 pm_198 pd_199) H := hP
                  have hD : va_D A (xw cI cJ cB cZ cN ha NA m_rows m_columns m_prime m_small m_pivots m_freeRows m_freeColumns m_smallMinor m_fields m_rowCounts m_elements m_numbers m_known m_ranks m_rankOf m_signOf m_order m_sizes m_coefficients m_choices m_sorted ++ po cI NA ND pn_197 pm_198 pd_199) := hD
                  refine lv_aload_n hx hb d_Mo_determinant_169 rfl (lv_at hl 0 rfl) ?_
                  refine va_get (D := (dC, dI)) (ci := 6) (v := .ref (ha 6)) (C := "BasisWalkModel") (T := T_Mo) (N := 31) hx hb hts iw1 hown hK hP 0 rfl rfl 16 (by decide) fl0 (fun _ h9 => h9) rfl d_Mo_determinant_170 ?_
                  refine lv_bipush (v := 6) hx hb d_Mo_determinant_173 (by decide) ?_
                  refine lv_iload_n hx hb d_Mo_determinant_175 rfl (lv_at hl 3 rfl) ?_
                  refine lv_imul hx hb d_Mo_determinant_176 ?_
                  refine lv_iload hx hb d_Mo_determinant_177 (lv_at hl 5 rfl) ?_
                  refine lv_iadd hx hb d_Mo_determinant_179 ?_
                  obtain ⟨g_207, h⟩ := ck_in_s h
                  refine va_aldq hx hb hK hP 6 5 rfl rfl g_207 d_Mo_determinant_180 ?_
                  obtain ⟨kp_208, ekp_208⟩ : ∃ y : Nat, y = (156 + ((6 * v3_13) + v5_167).toNatClampNeg) := ⟨_, rfl⟩
                  replace h := ck_nm_s h ekp_208
                  have hkp_208 : kp_208 < 200 := by have q9 := vp_lt g_207; omega
                  refine W.eq (g2 := F0 m 181 ls [.ref (NA kp_208)]) (by rw [ekp_208]; rfl) ?_
                  refine lv_aload_n hx hb d_Mo_determinant_181 rfl (lv_at hl 0 rfl) ?_
                  refine va_get (D := (dC, dI)) (ci := 6) (v := .ref (NA 192)) (C := "BasisWalkModel") (T := T_Mo) (N := 31) hx hb hts iw1 hown hK hP 0 rfl rfl 0 (by decide) fl2 (fun _ h9 => h9) rfl d_Mo_determinant_182 ?_
                  obtain ⟨n_212, h⟩ := ck_p_s h
                  obtain ⟨u_209, u_210, u_211, hc_216, h⟩ := ck_b3_s h
                  obtain ⟨hPc, hDc⟩ := po_cut (ks := [kp_208, 192]) (ks2 hkp_208 (by decide)) (nd2 n_212) hP hD
                  have hPc : va_P (dC, dI) cl_all [(NA kp_208, .inr (5, [.ref (ND kp_208), .int (pn_197 kp_208), .int (pm_198 kp_208)])), (ND kp_208, .inl (cI, 160, .inl (pd_199 kp_208))), (NA 192, .inr (5, [.ref (ND 192), .int (pn_197 192), .int (pm_198 192)])), (ND 192, .inl (cI, 160, .inl (pd_199 192)))] H := hPc
                  have hDc : va_D A [(NA kp_208, .inr (5, [.ref (ND kp_208), .int (pn_197 kp_208), .int (pm_198 kp_208)])), (ND kp_208, .inl (cI, 160, .inl (pd_199 kp_208))), (NA 192, .inr (5, [.ref (ND 192), .int (pn_197 192), .int (pm_198 192)])), (ND 192, .inl (cI, 160, .inl (pd_199 192)))] := hDc
                  have hFc := pw_free hDc hS hA
                  refine va_callv (va_runV (As := [.ref (NA 192)]) (rest := []) ⟨hx, hb, hml, hown, hts⟩ (c_N_copy l dC dI cI cJ cB cZ cT cN H.size (NA kp_208) (NA 192) (ND kp_208) (ND 192) (pn_197 kp_208) (pm_198 kp_208) 160 (pd_199 kp_208) (pn_197 192) (pm_198 192) 160 (pd_199 192) _ hc_216) (cwV 1 hts (tb_V tw_510 tw_511 tw_512 tw_7 tw_513) rfl rfl rfl (by decide +kernel) ⟨Nat.le_of_ble_eq_true rfl, Nat.le_of_ble_eq_true rfl⟩) ⟨fun a U g mk q => by obtain ⟨q0, q1, qP, qK, qN, qD⟩ := q; exact ⟨q0, q1, qP, va_K.moved (u := U) (U := U.calling g mk a) (Vm.Alike.refl U.vm) qK, qN.same rfl, qD⟩, va_recv hK hPc (ci := 5) (q0 := 0) rfl rfl, fun U hU hW => ⟨rfl, by rw [hU], by rw [hU]; exact hPc, va_K.moved hW.alike hK, hN.warm hW, hDc.weaken (fun _ _ _ _ => trivial)⟩⟩ rfl rfl hl.1 rfl (lv_room (Nat.le_of_ble_eq_true rfl)) d_Mo_determinant_185 ⟨Nat.zero_le _, Nat.zero_le _⟩) hS (fun q _ h => hFc q h) hFc (fun u t H1 locs ht hvm hw hB hz1 hk1 hS => ?_)
                  replace hw := hw.symm
                  subst hw
                  obtain ⟨hP1, -, hD1⟩ := hB
                  rw [ht] at hP1
                  obtain ⟨pn_213, epn_213⟩ : ∃ y : Nat → Int32, y = (upd pn_197 kp_208 u_209) := ⟨_, rfl⟩
                  replace h := ck_nm_s h epn_213
                  obtain ⟨pm_214, epm_214⟩ : ∃ y : Nat → Int32, y = (upd pm_198 kp_208 u_210) := ⟨_, rfl⟩
                  replace h := ck_nm_s h epm_214
                  obtain ⟨pd_215, epd_215⟩ : ∃ y : Nat → Nat → Int32, y = (va_up pd_199 kp_208 u_211) := ⟨_, rfl⟩
                  replace h := ck_nm_s h epd_215
                  have fq_217 : pn_213 kp_208 = u_209 := by simp [epn_213, upd, va_up, n_212, Ne.symm n_212]
                  have fq_218 : pm_214 kp_208 = u_210 := by simp [epm_214, upd, va_up, n_212, Ne.symm n_212]
                  have fq_219 : pd_215 kp_208 = u_211 := by simp [epd_215, upd, va_up, n_212, Ne.symm n_212]
                  have fq_220 : pn_213 192 = pn_197 192 := by simp [epn_213, upd, va_up, n_212, Ne.symm n_212]
                  have fq_221 : pm_214 192 = pm_198 192 := by simp [epm_214, upd, va_up, n_212, Ne.symm n_212]
                  have fq_222 : pd_215 192 = pd_199 192 := by simp [epd_215, upd, va_up, n_212, Ne.symm n_212]
                  obtain ⟨hP, hD⟩ := po_back (ks := [kp_208, 192]) (pn' := pn_213) (pm' := pm_214) (pd' := pd_215) (ks2 hkp_208 (by decide)) hP hD hk1 (by show va_P (dC, dI) cl_all [(NA kp_208, .inr (5, [.ref (ND kp_208), .int (pn_213 kp_208), .int (pm_214 kp_208)])), (ND kp_208, .inl (cI, 160, .inl (pd_215 kp_208))), (NA 192, .inr (5, [.ref (ND 192), .int (pn_213 192), .int (pm_214 192)])), (ND 192, .inl (cI, 160, .inl (pd_215 192)))] H1; rw [fq_217, fq_218, fq_219, fq_220, fq_221, fq_222]; exact hP1) (fun j hj => by simp only [List.mem_cons, List.not_mem_nil, or_false, not_or] at hj; exact ⟨by simp [epn_213, upd, va_up, hj], by simp [epm_214, upd, va_up, hj], by simp [epd_215, upd, va_up, hj]⟩)
                  generalize H1 = H at hP hS ⊢
                  have hP : va_P (dC, dI) cl_all (xw cI cJ cB cZ cN ha NA m_rows m_columns m_prime m_small m_pivots m_freeRows m_freeColumns m_smallMinor m_fields m_rowCounts m_elements m_numbers m_known m_ranks m_rankOf m_signOf m_order m_sizes m_coefficients m_choices m_sorted ++ po cI NA ND pn_213 pm_214 pd_215) H := hP
                  have hD : va_D A (xw cI cJ cB cZ cN ha NA m_rows m_columns m_prime m_small m_pivots m_freeRows m_freeColumns m_smallMinor m_fields m_rowCounts m_elements m_numbers m_known m_ranks m_rankOf m_signOf m_order m_sizes m_coefficients m_choices m_sorted ++ po cI NA ND pn_213 pm_214 pd_215) := hD
                  obtain ⟨x_223, ex_223⟩ : ∃ y : Int32, y = v5_167 + 1 := ⟨_, rfl⟩
                  replace h := ck_nm_s h ex_223
                  refine lv_iinc (v := x_223) (lv' := [(5, .int x_223), (0, .ref (ha 0)), (1, .int n0), (2, .int v2_14), (3, .int v3_13), (4, .int v4_19)]) hx hb d_Mo_determinant_188 hl (k := 5) rfl (by rw [ex_223]; rfl) (by decide) rfl (fun ls hl => ?_)
                  refine lv_goto (tgt := 109) hx hb d_Mo_determinant_191 (by decide) ?_
                  exact J_109 _ _ _ _ h _ _ hP hD hS _ (lv_sub hl [1, 2, 3, 4, 5, 0] rfl)
          · replace h := ck_if_t h c_20
            refine lv_iconst (v := 0) hx hb d_Mo_determinant_104 (by decide) ?_
            obtain rfl := Option.some.inj h
            subst hQ
            exact W.iret (v := 0) hx hb hr (fun t ht hW => ⟨⟨0, (pn_15, pm_16, pd_17), rfl, rfl, by rw [ht]; exact hP, va_K.moved hW.alike hK, hD⟩, hS.F ht⟩) hS.2.2 d_Mo_determinant_105
        · intro k_98 J_98 h
          refine lo1_W (r := r) (fun (v4_224 : Int32) => ∀ (H : Heap) (locs : List Loc), va_P (dC, dI) cl_all (xw cI cJ cB cZ cN ha NA m_rows m_columns m_prime m_small m_pivots m_freeRows m_freeColumns m_smallMinor m_fields m_rowCounts m_elements m_numbers m_known m_ranks m_rankOf m_signOf m_order m_sizes m_coefficients m_choices m_sorted ++ po cI NA ND pn_15 pm_16 pd_17) H → va_D A (xw cI cJ cB cZ cN ha NA m_rows m_columns m_prime m_small m_pivots m_freeRows m_freeColumns m_smallMinor m_fields m_rowCounts m_elements m_numbers m_known m_ranks m_rankOf m_signOf m_order m_sizes m_coefficients m_choices m_sorted ++ po cI NA ND pn_15 pm_16 pd_17) → va_S A s.heap H locs → ∀ ls : Array Slot, lv_has ls 7 [(0, .ref (ha 0)), (1, .int n0), (2, .int v2_14), (3, .int v3_13), (4, .int v4_224)] → W p l e ({ frames := 3, cells := 0, slots := 0, locals := 80 } : Room) s m AR below meth c H locs 0 0 QQ (F0 m 68 ls [])) ?_ _ _ h _ _ hP hD hS _ (lv_sub hl [1, 2, 3, 4, 0] rfl)
          intro k_68 v4_224 J_68 h H locs hP hD hS ls hl
          refine lv_iload hx hb d_Mo_determinant_68 (lv_at hl 4 rfl) ?_
          refine lv_iload_n hx hb d_Mo_determinant_70 rfl (lv_at hl 1 rfl) ?_
          refine lv_icmp_ge (tgt := 98) hx hb d_Mo_determinant_71 (by decide) (fun c_225 => ?_) (fun c_225 => ?_)
          · replace h := ck_if_t h c_225
            exact J_98 _ h _ _ hP hD hS _ (lv_sub hl [0, 1, 2, 3, 4] rfl)
          · replace h := ck_if_f h c_225
            refine lv_aload_n hx hb d_Mo_determinant_74 rfl (lv_at hl 0 rfl) ?_
            refine va_get (D := (dC, dI)) (ci := 6) (v := .ref (ha 6)) (C := "BasisWalkModel") (T := T_Mo) (N := 31) hx hb hts iw1 hown hK hP 0 rfl rfl 16 (by decide) fl0 (fun _ h9 => h9) rfl d_Mo_determinant_75 ?_
            refine lv_bipush (v := 6) hx hb d_Mo_determinant_78 (by decide) ?_
            refine lv_iload hx hb d_Mo_determinant_80 (lv_at hl 4 rfl) ?_
            refine lv_imul hx hb d_Mo_determinant_82 ?_
            refine lv_iload_n hx hb d_Mo_determinant_83 rfl (lv_at hl 3 rfl) ?_
            refine lv_iadd hx hb d_Mo_determinant_84 ?_
            obtain ⟨g_226, h⟩ := ck_in_s h
            refine va_aldq hx hb hK hP 6 5 rfl rfl g_226 d_Mo_determinant_85 ?_
            obtain ⟨kp_227, ekp_227⟩ : ∃ y : Nat, y = (156 + ((6 * v4_224) + v3_13).toNatClampNeg) := ⟨_, rfl⟩
            replace h := ck_nm_s h ekp_227
            have hkp_227 : kp_227 < 200 := by have q9 := vp_lt g_226; omega
            refine W.eq (g2 := F0 m 86 ls [.ref (NA kp_227)]) (by rw [ekp_227]; rfl) ?_
            refine va_get (D := (dC, dI)) (ci := 5) (v := .int (pn_15 kp_227)) (C := "BasisWalkModel$Num") (T := T_Nu) (N := 3) hx hb hts iw6 hown hK hP _ (po_obj hkp_227) rfl 1 (by decide) fl5 (fun _ h9 => h9) rfl d_Mo_determinant_86 ?_
            refine lv_if_ne (tgt := 98) hx hb d_Mo_determinant_89 (by decide) (fun c_228 => ?_) (fun c_228 => ?_)
            · replace h := ck_if_f h c_228
              exact J_98 _ h _ _ hP hD hS _ (lv_sub hl [0, 1, 2, 3, 4] rfl)
            · replace h := ck_if_t h c_228
              obtain ⟨x_229, ex_229⟩ : ∃ y : Int32, y = v4_224 + 1 := ⟨_, rfl⟩
              replace h := ck_nm_s h ex_229
              refine lv_iinc (v := x_229) (lv' := [(4, .int x_229), (0, .ref (ha 0)), (1, .int n0), (2, .int v2_14), (3, .int v3_13)]) hx hb d_Mo_determinant_92 hl (k := 4) rfl (by rw [ex_229]; rfl) (by decide) rfl (fun ls hl => ?_)
              refine lv_goto (tgt := 68) hx hb d_Mo_determinant_95 (by decide) ?_
              exact J_68 _ h _ _ hP hD hS _ (lv_sub hl [1, 2, 3, 4, 0] rfl)
  · intro k_56 J_56 h
    refine lo4_W (r := r) (fun (v2_230 : Int32) (pn_231 : Nat → Int32) (pm_232 : Nat → Int32) (pd_233 : Nat → Nat → Int32) => ∀ (H : Heap) (locs : List Loc), va_P (dC, dI) cl_all (xw cI cJ cB cZ cN ha NA m_rows m_columns m_prime m_small m_pivots m_freeRows m_freeColumns m_smallMinor m_fields m_rowCounts m_elements m_numbers m_known m_ranks m_rankOf m_signOf m_order m_sizes m_coefficients m_choices m_sorted ++ po cI NA ND pn_231 pm_232 pd_233) H → va_D A (xw cI cJ cB cZ cN ha NA m_rows m_columns m_prime m_small m_pivots m_freeRows m_freeColumns m_smallMinor m_fields m_rowCounts m_elements m_numbers m_known m_ranks m_rankOf m_signOf m_order m_sizes m_coefficients m_choices m_sorted ++ po cI NA ND pn_231 pm_232 pd_233) → va_S A s.heap H locs → ∀ ls : Array Slot, lv_has ls 7 [(0, .ref (ha 0)), (1, .int n0), (2, .int v2_230)] → W p l e ({ frames := 3, cells := 0, slots := 0, locals := 80 } : Room) s m AR below meth c H locs 0 0 QQ (F0 m 2 ls [])) ?_ _ _ _ _ _ h _ _ hP hD hS _ (lv_sub hl [1, 2, 0] rfl)
    intro k_2 v2_230 pn_231 pm_232 pd_233 J_2 h H locs hP hD hS ls hl
    refine lv_iload_n hx hb d_Mo_determinant_2 rfl (lv_at hl 2 rfl) ?_
    refine lv_iload_n hx hb d_Mo_determinant_3 rfl (lv_at hl 1 rfl) ?_
    refine lv_icmp_ge (tgt := 56) hx hb d_Mo_determinant_4 (by decide) (fun c_234 => ?_) (fun c_234 => ?_)
    · replace h := ck_if_t h c_234
      exact J_56 _ _ _ h _ _ hP hD hS _ (lv_sub hl [0, 1] rfl)
    · replace h := ck_if_f h c_234
      refine lv_iconst (v := 0) hx hb d_Mo_determinant_7 (by decide) ?_
      refine lv_istore_n (lv' := [(3, .int 0), (0, .ref (ha 0)), (1, .int n0), (2, .int v2_230)]) hx hb d_Mo_determinant_8 rfl hl (by decide) rfl (fun ls hl => ?_)
      refine ck_jn_W h (fun k' => ∀ (pn_235 : Nat → Int32) (pm_236 : Nat → Int32) (pd_237 : Nat → Nat → Int32), k' pn_235 pm_236 pd_237 = some r → ∀ (H : Heap) (locs : List Loc), va_P (dC, dI) cl_all (xw cI cJ cB cZ cN ha NA m_rows m_columns m_prime m_small m_pivots m_freeRows m_freeColumns m_smallMinor m_fields m_rowCounts m_elements m_numbers m_known m_ranks m_rankOf m_signOf m_order m_sizes m_coefficients m_choices m_sorted ++ po cI NA ND pn_235 pm_236 pd_237) H → va_D A (xw cI cJ cB cZ cN ha NA m_rows m_columns m_prime m_small m_pivots m_freeRows m_freeColumns m_smallMinor m_fields m_rowCounts m_elements m_numbers m_known m_ranks m_rankOf m_signOf m_order m_sizes m_coefficients m_choices m_sorted ++ po cI NA ND pn_235 pm_236 pd_237) → va_S A s.heap H locs → ∀ ls : Array Slot, lv_has ls 7 [(0, .ref (ha 0)), (1, .int n0), (2, .int v2_230)] → W p l e ({ frames := 3, cells := 0, slots := 0, locals := 80 } : Room) s m AR below meth c H locs 0 0 QQ (F0 m 50 ls [])) ?_ ?_
      · intro pn_235 pm_236 pd_237 h H locs hP hD hS ls hl
        obtain ⟨x_238, ex_238⟩ : ∃ y : Int32, y = v2_230 + 1 := ⟨_, rfl⟩
        replace h := ck_nm_s h ex_238
        refine lv_iinc (v := x_238) (lv' := [(2, .int x_238), (0, .ref (ha 0)), (1, .int n0)]) hx hb d_Mo_determinant_50 hl (k := 2) rfl (by rw [ex_238]; rfl) (by decide) rfl (fun ls hl => ?_)
        refine lv_goto (tgt := 2) hx hb d_Mo_determinant_53 (by decide) ?_
        exact J_2 _ _ _ _ h _ _ hP hD hS _ (lv_sub hl [1, 2, 0] rfl)
      · intro k_50 J_50 h
        refine lo4_W (r := r) (fun (v3_239 : Int32) (pn_240 : Nat → Int32) (pm_241 : Nat → Int32) (pd_242 : Nat → Nat → Int32) => ∀ (H : Heap) (locs : List Loc), va_P (dC, dI) cl_all (xw cI cJ cB cZ cN ha NA m_rows m_columns m_prime m_small m_pivots m_freeRows m_freeColumns m_smallMinor m_fields m_rowCounts m_elements m_numbers m_known m_ranks m_rankOf m_signOf m_order m_sizes m_coefficients m_choices m_sorted ++ po cI NA ND pn_240 pm_241 pd_242) H → va_D A (xw cI cJ cB cZ cN ha NA m_rows m_columns m_prime m_small m_pivots m_freeRows m_freeColumns m_smallMinor m_fields m_rowCounts m_elements m_numbers m_known m_ranks m_rankOf m_signOf m_order m_sizes m_coefficients m_choices m_sorted ++ po cI NA ND pn_240 pm_241 pd_242) → va_S A s.heap H locs → ∀ ls : Array Slot, lv_has ls 7 [(0, .ref (ha 0)), (1, .int n0), (2, .int v2_230), (3, .int v3_239)] → W p l e ({ frames := 3, cells := 0, slots := 0, locals := 80 } : Room) s m AR below meth c H locs 0 0 QQ (F0 m 9 ls [])) ?_ _ _ _ _ _ h _ _ hP hD hS _ (lv_sub hl [1, 2, 3, 0] rfl)
        intro k_9 v3_239 pn_240 pm_241 pd_242 J_9 h H locs hP hD hS ls hl
        refine lv_iload_n hx hb d_Mo_determinant_9 rfl (lv_at hl 3 rfl) ?_
        refine lv_iload_n hx hb d_Mo_determinant_10 rfl (lv_at hl 1 rfl) ?_
        refine lv_icmp_ge (tgt := 50) hx hb d_Mo_determinant_11 (by decide) (fun c_243 => ?_) (fun c_243 => ?_)
        · replace h := ck_if_t h c_243
          exact J_50 _ _ _ h _ _ hP hD hS _ (lv_sub hl [0, 1, 2] rfl)
        · replace h := ck_if_f h c_243
          refine lv_aload_n hx hb d_Mo_determinant_14 rfl (lv_at hl 0 rfl) ?_
          refine va_get (D := (dC, dI)) (ci := 6) (v := .ref (ha 6)) (C := "BasisWalkModel") (T := T_Mo) (N := 31) hx hb hts iw1 hown hK hP 0 rfl rfl 16 (by decide) fl0 (fun _ h9 => h9) rfl d_Mo_determinant_15 ?_
          refine lv_bipush (v := 6) hx hb d_Mo_determinant_18 (by decide) ?_
          refine lv_iload_n hx hb d_Mo_determinant_20 rfl (lv_at hl 2 rfl) ?_
          refine lv_imul hx hb d_Mo_determinant_21 ?_
          refine lv_iload_n hx hb d_Mo_determinant_22 rfl (lv_at hl 3 rfl) ?_
          refine lv_iadd hx hb d_Mo_determinant_23 ?_
          obtain ⟨g_244, h⟩ := ck_in_s h
          refine va_aldq hx hb hK hP 6 5 rfl rfl g_244 d_Mo_determinant_24 ?_
          obtain ⟨kp_245, ekp_245⟩ : ∃ y : Nat, y = (156 + ((6 * v2_230) + v3_239).toNatClampNeg) := ⟨_, rfl⟩
          replace h := ck_nm_s h ekp_245
          have hkp_245 : kp_245 < 200 := by have q9 := vp_lt g_244; omega
          refine W.eq (g2 := F0 m 25 ls [.ref (NA kp_245)]) (by rw [ekp_245]; rfl) ?_
          refine lv_aload_n hx hb d_Mo_determinant_25 rfl (lv_at hl 0 rfl) ?_
          refine lv_aload_n hx hb d_Mo_determinant_26 rfl (lv_at hl 0 rfl) ?_
          refine va_get (D := (dC, dI)) (ci := 6) (v := .ref (ha 4)) (C := "BasisWalkModel") (T := T_Mo) (N := 31) hx hb hts iw1 hown hK hP 0 rfl rfl 14 (by decide) fl7 (fun _ h9 => h9) rfl d_Mo_determinant_27 ?_
          refine lv_iload_n hx hb d_Mo_determinant_30 rfl (lv_at hl 2 rfl) ?_
          obtain ⟨g_246, h⟩ := ck_in_s h
          refine va_iald hx hb hK hP 4 0 rfl rfl g_246 d_Mo_determinant_31 ?_
          refine lv_aload_n hx hb d_Mo_determinant_32 rfl (lv_at hl 0 rfl) ?_
          refine va_get (D := (dC, dI)) (ci := 6) (v := .ref (ha 5)) (C := "BasisWalkModel") (T := T_Mo) (N := 31) hx hb hts iw1 hown hK hP 0 rfl rfl 15 (by decide) fl8 (fun _ h9 => h9) rfl d_Mo_determinant_33 ?_
          refine lv_iload_n hx hb d_Mo_determinant_36 rfl (lv_at hl 3 rfl) ?_
          obtain ⟨g_247, h⟩ := ck_in_s h
          refine va_iald hx hb hK hP 5 0 rfl rfl g_247 d_Mo_determinant_37 ?_
          obtain ⟨r_248, hc_249, h⟩ := ck_b1_s h
          have hPc := hP
          have hDc := hD
          have hFc := pw_free hDc hS hA
          refine va_callr (va_runV (As := [.int (m_freeRows v2_230.toNatClampNeg), .int (m_freeColumns v3_239.toNatClampNeg)]) (rest := [.ref (NA kp_245)]) ⟨hx, hb, hml, hown, hts⟩ (c_R_at l dC dI cI cJ cB cZ cT cN H.size ha NA ND m_rows m_columns m_prime m_small m_pivots m_freeRows m_freeColumns m_smallMinor m_fields m_rowCounts m_elements m_numbers m_known m_ranks m_rankOf m_signOf m_order m_sizes m_coefficients m_choices m_sorted pn_240 pm_241 pd_242 (m_freeRows v2_230.toNatClampNeg) (m_freeColumns v3_239.toNatClampNeg) _ hc_249) (cwV 2 hts (tb_V tw_485 tw_487 tp_21 tw_6 tw_488) rfl rfl rfl (by decide +kernel) ⟨Nat.le_of_ble_eq_true rfl, Nat.le_of_ble_eq_true rfl⟩) ⟨fun a U g mk q => by obtain ⟨q0, q1, qP, qK, qN, qD⟩ := q; exact ⟨q0, q1, qP, va_K.moved (u := U) (U := U.calling g mk a) (Vm.Alike.refl U.vm) qK, qN.same rfl, qD⟩, va_recv hK hPc (ci := 6) (q0 := 0) rfl rfl, fun U hU hW => ⟨rfl, by rw [hU], by rw [hU]; exact hPc, va_K.moved hW.alike hK, hN.warm hW, hDc.weaken (fun _ _ _ _ => trivial)⟩⟩ rfl rfl hl.1 rfl (lv_room (Nat.le_of_ble_eq_true rfl)) d_Mo_determinant_38 ⟨Nat.zero_le _, Nat.zero_le _⟩) hS (fun q _ h => hFc q h) hFc (fun u ra t H1 locs ht hvm hw hB hz1 hk1 hS => ?_)
          replace hw := hw.symm
          subst hw
          obtain ⟨hra, hlr_248, hP1, -, hD1⟩ := hB
          subst hra
          rw [ht] at hP1
          have hP : va_P (dC, dI) cl_all (xw cI cJ cB cZ cN ha NA m_rows m_columns m_prime m_small m_pivots m_freeRows m_freeColumns m_smallMinor m_fields m_rowCounts m_elements m_numbers m_known m_ranks m_rankOf m_signOf m_order m_sizes m_coefficients m_choices m_sorted ++ po cI NA ND pn_240 pm_241 pd_242) H1 := hP1
          have hD : va_D A (xw cI cJ cB cZ cN ha NA m_rows m_columns m_prime m_small m_pivots m_freeRows m_freeColumns m_smallMinor m_fields m_rowCounts m_elements m_numbers m_known m_ranks m_rankOf m_signOf m_order m_sizes m_coefficients m_choices m_sorted ++ po cI NA ND pn_240 pm_241 pd_242) := hD1.weaken (fun _ _ _ h => hFc _ h)
          generalize H1 = H at hP hS ⊢
          have hP : va_P (dC, dI) cl_all (xw cI cJ cB cZ cN ha NA m_rows m_columns m_prime m_small m_pivots m_freeRows m_freeColumns m_smallMinor m_fields m_rowCounts m_elements m_numbers m_known m_ranks m_rankOf m_signOf m_order m_sizes m_coefficients m_choices m_sorted ++ po cI NA ND pn_240 pm_241 pd_242) H := hP
          have hD : va_D A (xw cI cJ cB cZ cN ha NA m_rows m_columns m_prime m_small m_pivots m_freeRows m_freeColumns m_smallMinor m_fields m_rowCounts m_elements m_numbers m_known m_ranks m_rankOf m_signOf m_order m_sizes m_coefficients m_choices m_sorted ++ po cI NA ND pn_240 pm_241 pd_242) := hD
          obtain ⟨n_253, h⟩ := ck_p_s h
          obtain ⟨u_250, u_251, u_252, hc_257, h⟩ := ck_b3_s h
          obtain ⟨hPc, hDc⟩ := po_cut (ks := [kp_245, r_248]) (ks2 hkp_245 hlr_248) (nd2 n_253) hP hD
          have hPc : va_P (dC, dI) cl_all [(NA kp_245, .inr (5, [.ref (ND kp_245), .int (pn_240 kp_245), .int (pm_241 kp_245)])), (ND kp_245, .inl (cI, 160, .inl (pd_242 kp_245))), (NA r_248, .inr (5, [.ref (ND r_248), .int (pn_240 r_248), .int (pm_241 r_248)])), (ND r_248, .inl (cI, 160, .inl (pd_242 r_248)))] H := hPc
          have hDc : va_D A [(NA kp_245, .inr (5, [.ref (ND kp_245), .int (pn_240 kp_245), .int (pm_241 kp_245)])), (ND kp_245, .inl (cI, 160, .inl (pd_242 kp_245))), (NA r_248, .inr (5, [.ref (ND r_248), .int (pn_240 r_248), .int (pm_241 r_248)])), (ND r_248, .inl (cI, 160, .inl (pd_242 r_248)))] := hDc
          have hFc := pw_free hDc hS hA
          refine va_callv (va_runV (As := [.ref (NA r_248)]) (rest := []) ⟨hx, hb, hml, hown, hts⟩ (c_N_copy l dC dI cI cJ cB cZ cT cN H.size (NA kp_245) (NA r_248) (ND kp_245) (ND r_248) (pn_240 kp_245) (pm_241 kp_245) 160 (pd_242 kp_245) (pn_240 r_248) (pm_241 r_248) 160 (pd_242 r_248) _ hc_257) (cwV 1 hts (tb_V tw_510 tw_511 tw_512 tw_7 tw_513) rfl rfl rfl (by decide +kernel) ⟨Nat.le_of_ble_eq_true rfl, Nat.le_of_ble_eq_true rfl⟩) ⟨fun a U g mk q => by obtain ⟨q0, q1, qP, qK, qN, qD⟩ := q; exact ⟨q0, q1, qP, va_K.moved (u := U) (U := U.calling g mk a) (Vm.Alike.refl U.vm) qK, qN.same rfl, qD⟩, va_recv hK hPc (ci := 5) (q0 := 0) rfl rfl, fun U hU hW => ⟨rfl, by rw [hU], by rw [hU]; exact hPc, va_K.moved hW.alike hK, hN.warm hW, hDc.weaken (fun _ _ _ _ => trivial)⟩⟩ rfl rfl hl.1 rfl (lv_room (Nat.le_of_ble_eq_true rfl)) d_Mo_determinant_41 ⟨Nat.zero_le _, Nat.zero_le _⟩) hS (fun q _ h => hFc q h) hFc (fun u t H1 locs ht hvm hw hB hz1 hk1 hS => ?_)
          replace hw := hw.symm
          subst hw
          obtain ⟨hP1, -, hD1⟩ := hB
          rw [ht] at hP1
          obtain ⟨pn_254, epn_254⟩ : ∃ y : Nat → Int32, y = (upd pn_240 kp_245 u_250) := ⟨_, rfl⟩
          replace h := ck_nm_s h epn_254
          obtain ⟨pm_255, epm_255⟩ : ∃ y : Nat → Int32, y = (upd pm_241 kp_245 u_251) := ⟨_, rfl⟩
          replace h := ck_nm_s h epm_255
          obtain ⟨pd_256, epd_256⟩ : ∃ y : Nat → Nat → Int32, y = (va_up pd_242 kp_245 u_252) := ⟨_, rfl⟩
          replace h := ck_nm_s h epd_256
          have fq_258 : pn_254 kp_245 = u_250 := by simp [epn_254, upd, va_up, n_253, Ne.symm n_253]
          have fq_259 : pm_255 kp_245 = u_251 := by simp [epm_255, upd, va_up, n_253, Ne.symm n_253]
          have fq_260 : pd_256 kp_245 = u_252 := by simp [epd_256, upd, va_up, n_253, Ne.symm n_253]
          have fq_261 : pn_254 r_248 = pn_240 r_248 := by simp [epn_254, upd, va_up, n_253, Ne.symm n_253]
          have fq_262 : pm_255 r_248 = pm_241 r_248 := by simp [epm_255, upd, va_up, n_253, Ne.symm n_253]
          have fq_263 : pd_256 r_248 = pd_242 r_248 := by simp [epd_256, upd, va_up, n_253, Ne.symm n_253]
          obtain ⟨hP, hD⟩ := po_back (ks := [kp_245, r_248]) (pn' := pn_254) (pm' := pm_255) (pd' := pd_256) (ks2 hkp_245 hlr_248) hP hD hk1 (by show va_P (dC, dI) cl_all [(NA kp_245, .inr (5, [.ref (ND kp_245), .int (pn_254 kp_245), .int (pm_255 kp_245)])), (ND kp_245, .inl (cI, 160, .inl (pd_256 kp_245))), (NA r_248, .inr (5, [.ref (ND r_248), .int (pn_254 r_248), .int (pm_255 r_248)])), (ND r_248, .inl (cI, 160, .inl (pd_256 r_248)))] H1; rw [fq_258, fq_259, fq_260, fq_261, fq_262, fq_263]; exact hP1) (fun j hj => by simp only [List.mem_cons, List.not_mem_nil, or_false, not_or] at hj; exact ⟨by simp [epn_254, upd, va_up, hj], by simp [epm_255, upd, va_up, hj], by simp [epd_256, upd, va_up, hj]⟩)
          generalize H1 = H at hP hS ⊢
          have hP : va_P (dC, dI) cl_all (xw cI cJ cB cZ cN ha NA m_rows m_columns m_prime m_small m_pivots m_freeRows m_freeColumns m_smallMinor m_fields m_rowCounts m_elements m_numbers m_known m_ranks m_rankOf m_signOf m_order m_sizes m_coefficients m_choices m_sorted ++ po cI NA ND pn_254 pm_255 pd_256) H := hP
          have hD : va_D A (xw cI cJ cB cZ cN ha NA m_rows m_columns m_prime m_small m_pivots m_freeRows m_freeColumns m_smallMinor m_fields m_rowCounts m_elements m_numbers m_known m_ranks m_rankOf m_signOf m_order m_sizes m_coefficients m_choices m_sorted ++ po cI NA ND pn_254 pm_255 pd_256) := hD
          obtain ⟨x_264, ex_264⟩ : ∃ y : Int32, y = v3_239 + 1 := ⟨_, rfl⟩
          replace h := ck_nm_s h ex_264
          refine lv_iinc (v := x_264) (lv' := [(3, .int x_264), (0, .ref (ha 0)), (1, .int n0), (2, .int v2_230)]) hx hb d_Mo_determinant_44 hl (k := 3) rfl (by rw [ex_264]; rfl) (by decide) rfl (fun ls hl => ?_)
          refine lv_goto (tgt := 9) hx hb d_Mo_determinant_47 (by decide) ?_
          exact J_9 _ _ _ _ h _ _ hP hD hS _ (lv_sub hl [1, 2, 3, 0] rfl)
